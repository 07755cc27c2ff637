/-! years by draws -/
def dB (z : Int32) : Int32 := (((z.toUInt32 >>> (Int32.toUInt32 (8 : Int32) &&& Int32.toUInt32 31)).toInt32) - ((z.toUInt32 >>> (Int32.toUInt32 (8 : Int32) &&& Int32.toUInt32 31)).toInt32) / (3 : Int32) * (3 : Int32)) - (1 : Int32)
theorem nI_of_tn (x : Int32) : x = nI x.toBitVec.toNat := by
  apply Int32.toBitVec_inj.1
  show x.toBitVec = BitVec.ofNat 32 x.toBitVec.toNat
  simp
theorem dB_3 (z : Int32) : t3 (dB z) := by
  unfold dB
  have h := pk_ushr z 8 8 (by decide)
  have h2 := nI_of_tn ((z.toUInt32 >>> (Int32.toUInt32 (8 : Int32) &&& Int32.toUInt32 31)).toInt32)
  rw [h] at h2
  have hlt : z.toBitVec.toNat / 2 ^ 8 < 2 ^ 24 := by have := z.toBitVec.isLt; omega
  rw [h2]
  have e : nI (z.toBitVec.toNat / 2 ^ 8) - nI (z.toBitVec.toNat / 2 ^ 8) / (3 : Int32) * (3 : Int32) = nI (z.toBitVec.toNat / 2 ^ 8 % 3) := pk_rem (d := 3) (by omega) (by decide) (by decide)
  rw [e]
  have : z.toBitVec.toNat / 2 ^ 8 % 3 = 0 ∨ z.toBitVec.toNat / 2 ^ 8 % 3 = 1 ∨ z.toBitVec.toNat / 2 ^ 8 % 3 = 2 := by omega
  rcases this with e | e | e
  · rw [e]; exact Or.inl (by decide)
  · rw [e]; exact Or.inr (Or.inl (by decide))
  · rw [e]; exact Or.inr (Or.inr (by decide))
def zn (z : Int32) : Int32 := (z * (1103515245 : Int32)) + (12345 : Int32)
/-- one hour's draws: behind i carriages -/
def hzF (l : Nat → Nat → Nat → Int32) (p : Nat → Nat) (t : Nat) : Nat → Int32 × (Nat → Nat) → Int32 × (Nat → Nat)
  | 0, a => a
  | i + 1, a => (zn (hzF l p t i a).1, fun j => if j = i then nx (l i) (p i) ((hzF l p t i a).2 i) t (dB (zn (hzF l p t i a).1)) else (hzF l p t i a).2 j)
def yrF (l : Nat → Nat → Nat → Int32) (p : Nat → Nat) (nC : Nat) : Nat → Int32 × (Nat → Nat) → Int32 × (Nat → Nat)
  | 0, a => a
  | t + 1, a => hzF l p t nC (yrF l p nC t a)
def dyF (l : Nat → Nat → Nat → Int32) (p : Nat → Nat) (nC m : Nat) (S0 : Nat → Nat) (V : (Nat → Nat) → Int32) : Nat → Int32 → Int32 → Int32
  | 0, _, s => s
  | d + 1, z, s => dyF l p nC m S0 V d (yrF l p nC m (z, S0)).1 (s + V (yrF l p nC m (z, S0)).2)
/-- the class while it draws -/
def XD (σ τ : Sg) (nC M : Nat) (l : Nat → Nat → Nat → Int32) (p : Nat → Nat) : Prop := Fx σ τ ∧ (∀ k, k < nC → CoK τ k (p k) (l k)) ∧ IKb M τ
def XS (τ : Sg) (nC : Nat) (S : Nat → Nat) : Prop := ∀ k, k < nC → τ.1 35 k = nI (S k) ∧ S k < 2048
theorem XD_35 {σ τ : Sg} {nC M i : Nat} {l : Nat → Nat → Nat → Int32} {p : Nat → Nat} {v : Int32} (hn : nC ≤ 6) (h : XD σ τ nC M l p) : XD σ (sI τ 35 i v) nC M l p := by
  obtain ⟨h1, h2, h3⟩ := h
  refine ⟨h1.trans (Fx.set (by omega)), fun k hk => CoK_c (h2 k hk) (rd_ne (by decide)) (by rw [rd_ne (by decide)]) (by rw [rd_ne (by decide)]) (by rw [rd_ne (by decide)]) (by rw [rd_ne (by decide)]) (fun j _ => by rw [rd_ne (by omega)]) (rd_ne (by omega)), IKb_c h3 (Nat.le_refl _) (fun k hk => ⟨fun j _ => by rw [rd_ne (by omega)], rd_ne (by omega)⟩)⟩
theorem hz_x {σ : Sg} {nC nP M t : Nat} {l : Nat → Nat → Nat → Int32} {p : Nat → Nat} {J : Int32 → Sg → Prop} {a : Int32 × (Nat → Nat)} (hB : Bs σ nC nP) (hp : ∀ k, k < nC → p k < 1000) (hM : M ≤ 200000) (ht : t < 60)
    (hJ : ∀ τ', XD σ τ' nC M l p → XS τ' nC (hzF l p t nC a).2 → J (hzF l p t nC a).1 τ') : ∀ (d i : Nat) (τ : Sg), i + d = nC → XD σ τ nC M l p → XS τ nC (hzF l p t i a).2 → w_X1_drawYear_l52 (nI t) J (d + 1) (hzF l p t i a).1 (nI i) τ
  | 0, i, τ, h, hD, hS => by
    have h6 := hB.1.1
    have : i = nC := by omega
    subst this
    unfold w_X1_drawYear_l52
    rw [hD.1.lo (c := 1) (by omega), hB.1.2.2.1, if_pos (nI_le (Nat.le_refl _) (by omega))]
    exact hJ τ hD hS
  | d + 1, i, τ, h, hD, hS => by
    have h6 := hB.1.1
    have hi : i < nC := by omega
    obtain ⟨s1, s2⟩ := hS i hi
    have hv := vp_nI (show i < 6 by omega) (show 6 < 1000000 by decide)
    unfold w_X1_drawYear_l52
    rw [hD.1.lo (c := 1) (by omega), hB.1.2.2.1, if_neg (nI_ge (by omega) (by omega)), bd_eq, cl_nI (by omega), s1, nI_1]
    refine ⟨hv, hv, ?_⟩
    refine next_x (b := dB (zn (hzF l p t i a).1)) (by omega) (hD.2.1 i hi) hD.2.2 hM s2 ht (hp i hi) (dB_3 _) (fun τ1 hf hC1 hK1 _ => ?_)
    rw [bd_eq]
    refine ⟨hv, ?_⟩
    have hD1 : XD σ τ1 nC M l p := by
      refine ⟨hD.1.trans (Fx.of_k (by omega) hf), fun k hk => ?_, hK1⟩
      by_cases e : k = i
      · subst e; exact hC1
      · exact CoK_c (hD.2.1 k hk) (hf.1 9 (by omega) (by omega) (by omega) (by omega)) hf.2.1 (by rw [hf.1 1 (by omega) (by omega) (by omega) (by omega)]) (by rw [hf.1 1 (by omega) (by omega) (by omega) (by omega)]) (by rw [hf.1 5 (by omega) (by omega) (by omega) (by omega)]) (fun j _ => by rw [hf.1 _ (by omega) (by omega) (by omega) (by omega)]) (hf.1 _ (by omega) (by omega) (by omega) (by omega))
    refine hz_x (a := a) hB hp hM ht hJ d (i + 1) _ (by omega) (XD_35 h6 hD1) (fun k hk => ?_)
    show _ = nI (if k = i then nx (l i) (p i) ((hzF l p t i a).2 i) t (dB (zn (hzF l p t i a).1)) else (hzF l p t i a).2 k) ∧ (if k = i then nx (l i) (p i) ((hzF l p t i a).2 i) t (dB (zn (hzF l p t i a).1)) else (hzF l p t i a).2 k) < 2048
    rw [rd_in]
    by_cases e : k = i
    · rw [if_pos e, if_pos e]
      exact ⟨rfl, nx_lt s2⟩
    · rw [if_neg e, if_neg e, hf.1 35 (by omega) (by omega) (by omega) (by omega)]
      exact hS k hk
theorem yr_x {σ : Sg} {nC nP M m : Nat} {l : Nat → Nat → Nat → Int32} {p : Nat → Nat} {Q : Int32 → Sg → Prop} {a : Int32 × (Nat → Nat)} (hB : Bs σ nC nP) (hp : ∀ k, k < nC → p k < 1000) (hM : M ≤ 200000) (hm : m ≤ 40)
    (hQ : ∀ τ', XD σ τ' nC M l p → XS τ' nC (yrF l p nC m a).2 → Q (yrF l p nC m a).1 τ') : ∀ (d t : Nat) (τ : Sg), t + d = m → XD σ τ nC M l p → XS τ nC (yrF l p nC t a).2 → w_X1_drawYear_l43 (nI m) Q (d + 1) (yrF l p nC t a).1 (nI t) τ
  | 0, t, τ, h, hD, hS => by
    have : t = m := by omega
    subst this
    unfold w_X1_drawYear_l43
    rw [if_pos (nI_le (Nat.le_refl _) (by omega))]
    exact hQ τ hD hS
  | d + 1, t, τ, h, hD, hS => by
    unfold w_X1_drawYear_l43
    rw [if_neg (nI_ge (by omega) (by omega)), bd_eq]
    refine ⟨nC + 1, hz_x (a := yrF l p nC t a) hB hp hM (by omega) (fun τ1 hD1 hS1 => ?_) nC 0 τ (by omega) hD hS⟩
    rw [nI_1]
    exact yr_x (a := a) hB hp hM hm hQ d (t + 1) τ1 (by omega) hD1 hS1
theorem st_x {σ : Sg} {nC nP M : Nat} {l : Nat → Nat → Nat → Int32} {p : Nat → Nat} {J : Sg → Prop} (hB : Bs σ nC nP) (hJ : ∀ τ', XD σ τ' nC M l p → XS τ' nC (stN σ) → J τ') : ∀ (d i : Nat) (τ : Sg), i + d = nC → XD σ τ nC M l p → (∀ k, k < i → τ.1 35 k = nI (stN σ k)) → w_X1_drawYear_l5 J (d + 1) (nI i) τ
  | 0, i, τ, h, hD, hS => by
    have h6 := hB.1.1
    have : i = nC := by omega
    subst this
    unfold w_X1_drawYear_l5
    rw [hD.1.lo (c := 1) (by omega), hB.1.2.2.1, if_pos (nI_le (Nat.le_refl _) (by omega))]
    exact hJ τ hD (fun k hk => ⟨hS k hk, stN_lt hB hk⟩)
  | d + 1, i, τ, h, hD, hS => by
    have h6 := hB.1.1
    have hi : i < nC := by omega
    obtain ⟨⟨c1, c2⟩, ⟨c3, c4⟩, ⟨c5, c6, c7⟩, ⟨c8, c9⟩⟩ := hB.2.1 i hi
    have hv := vp_nI (show i < 6 by omega) (show 6 < 1000000 by decide)
    unfold w_X1_drawYear_l5
    rw [hD.1.lo (c := 1) (by omega), hB.1.2.2.1, if_neg (nI_ge (by omega) (by omega)), cl_nI (by omega), nI_1]
    refine ⟨hv, stand_x (by omega) (hD.2.1 i hi).1.1 (by rw [hD.1.lo (c := 2) (by omega), c1]) (by rw [hD.1.lo (c := 3) (by omega), c3]) ⟨hv, ?_⟩⟩
    rw [bd_eq]
    refine st_x hB hJ d (i + 1) _ (by omega) (XD_35 h6 hD) (fun k hk => ?_)
    rw [rd_in]
    by_cases e : k = i
    · subst e; rw [if_pos rfl]; rfl
    · rw [if_neg e]; exact hS k (by omega)
theorem year_x {σ : Sg} {nC nP M m : Nat} {l : Nat → Nat → Nat → Int32} {p : Nat → Nat} {z : Int32} {τ : Sg} {Q : Int32 → Sg → Prop} (hB : Bs σ nC nP) (hp : ∀ k, k < nC → p k < 1000) (hM : M ≤ 200000) (hm : m ≤ 40) (hD : XD σ τ nC M l p)
    (hQ : ∀ τ', XD σ τ' nC M l p → XS τ' nC (yrF l p nC m (z, stN σ)).2 → Q (yrF l p nC m (z, stN σ)).1 τ') : w_X1_drawYear z (nI m) τ Q := by
  unfold w_X1_drawYear
  rw [bd_eq]
  exact ⟨nC + 1, st_x hB (fun τ1 hD1 hS1 => ⟨m + 1, yr_x (a := (z, stN σ)) hB hp hM hm hQ m 0 τ1 (by omega) hD1 hS1⟩) nC 0 τ (by omega) hD (fun k hk => by omega)⟩
/-- how many are near a place -/
def cC (r nC : Nat) (S : Nat → Nat) (c : Nat) : Nat := cnt (fun k => nr r (S k / 8) c) nC
def cP (r nC nP : Nat) (sp S : Nat → Nat) : Nat := cnt (fun q => anyT (fun k => nr r (S k / 8) (sp q)) nC) nP
theorem cC_l {τ : Sg} {nC nP r c : Nat} {sp wo S : Nat → Nat} {Q : Int32 → Sg → Prop} (hL : LX τ nC nP r sp wo) (hS : XS τ nC S) (hc : c < 256) (hQ : Q (nI (cC r nC S c)) τ) : ∀ (d i : Nat), i + d = nC → w_X1_carriagesAt_l4 (nI c) Q (d + 1) (nI (cnt (fun k => nr r (S k / 8) c) i)) (nI i) τ
  | 0, i, h => by
    obtain ⟨⟨l1, l2, l3⟩, l4, l5, l6, l7, l8⟩ := id hL
    have : i = nC := by omega
    subst this
    unfold w_X1_carriagesAt_l4
    rw [l4, if_pos (nI_le (Nat.le_refl _) (by omega))]
    exact hQ
  | d + 1, i, h => by
    obtain ⟨⟨l1, l2, l3⟩, l4, l5, l6, l7, l8⟩ := id hL
    obtain ⟨s1, s2⟩ := hS i (by omega)
    have ih := cC_l hL hS hc hQ d (i + 1) (by omega)
    rw [show cnt (fun k => nr r (S k / 8) c) (i + 1) = cnt (fun k => nr r (S k / 8) c) i + if nr r (S i / 8) c = true then 1 else 0 from rfl] at ih
    unfold w_X1_carriagesAt_l4
    rw [l4, if_neg (nI_ge (by omega) (by omega)), cl_nI (by omega), s1, sh3 (by omega), nrX (by omega) hc l3 l8, bd_eq, nI_1, nI_1]
    refine ⟨vp_nI (by omega) (by decide), ?_⟩
    by_cases g : nr r (S i / 8) c = true
    · rw [if_pos g] at ih
      rw [if_pos g, if_neg one_ne]
      exact ih
    · rw [if_neg g] at ih
      rw [if_neg g, if_pos rfl]
      exact ih
theorem cP_l {τ : Sg} {nC nP r : Nat} {sp wo S : Nat → Nat} {J : Int32 → Sg → Prop} (hL : LX τ nC nP r sp wo) (hS : XS τ nC S) (hQ : J (nI (bN nP (fun q => anyT (fun k => nr r (S k / 8) (sp q)) nC))) τ) : ∀ (d i : Nat), i + d = nC → w_X1_placesReached_l4 J (d + 1) (nI (bN nP (fun q => anyT (fun k => nr r (S k / 8) (sp q)) i))) (nI i) τ
  | 0, i, h => by
    obtain ⟨⟨l1, l2, l3⟩, l4, l5, l6, l7, l8⟩ := id hL
    have : i = nC := by omega
    subst this
    unfold w_X1_placesReached_l4
    rw [l4, if_pos (nI_le (Nat.le_refl _) (by omega))]
    exact hQ
  | d + 1, i, h => by
    obtain ⟨⟨l1, l2, l3⟩, l4, l5, l6, l7, l8⟩ := id hL
    obtain ⟨s1, s2⟩ := hS i (by omega)
    have ih := cP_l hL hS hQ d (i + 1) (by omega)
    unfold w_X1_placesReached_l4
    rw [l4, if_neg (nI_ge (by omega) (by omega)), cl_nI (by omega), s1, sh3 (by omega), nI_1]
    refine ⟨vp_nI (by omega) (by decide), pN_x hL (by omega) ?_⟩
    rw [bd_eq]
    have e : nI (bN nP (fun q => anyT (fun k => nr r (S k / 8) (sp q)) i)) ||| nI (PN r nP sp (S i / 8)) = nI (bN nP (fun q => anyT (fun k => nr r (S k / 8) (sp q)) (i + 1))) := by
      unfold PN
      rw [nI_or, bN_or]
      rfl
    rw [e]
    exact ih
def dV (r nC nP : Nat) (sp : Nat → Nat) (c : Int32) (S : Nat → Nat) : Int32 := if c = -1 then nI (cP r nC nP sp S) else nI (cC r nC S (sp c.toNatClampNeg))
theorem dy_x {σ : Sg} {nC nP M m Y : Nat} {l : Nat → Nat → Nat → Int32} {p : Nat → Nat} {c : Int32} {Q : Int32 → Sg → Prop} (hB : Bs σ nC nP) (hp : ∀ k, k < nC → p k < 1000) (hM : M ≤ 200000) (hm : m ≤ 40) (hY : Y ≤ 30) (hc : c = -1 ∨ CR nP c) : ∀ (d y : Nat) (z s : Int32) (τ : Sg), y + d = Y → XD σ τ nC M l p →
    (∀ τ', XD σ τ' nC M l p → Q (dyF l p nC m (stN σ) (dV (vN σ 1 8) nC nP (vN σ 6) c) d z s) τ') → w_X1_byDraws_l50 (nI Y) (nI m) c Q (d + 1) z s (nI y) τ
  | 0, y, z, s, τ, h, hD, hQ => by
    unfold w_X1_byDraws_l50
    rw [if_pos (nI_le (by omega) (by omega))]
    exact hQ τ hD
  | d + 1, y, z, s, τ, h, hD, hQ => by
    have h6 := hB.1.1
    have h8' := hB.1.2.1
    unfold w_X1_byDraws_l50
    rw [if_neg (nI_ge (by omega) (by omega)), nI_1]
    refine year_x hB hp hM hm hD (fun τ1 hD1 hS1 => ?_)
    have hL := LX_of hB hD1.1
    rw [bd_eq]
    have ih := fun s' => dy_x (Q := Q) hB hp hM hm hY hc d (y + 1) (yrF l p nC m (z, stN σ)).1 s' τ1 (by omega) hD1
    rw [show dyF l p nC m (stN σ) (dV (vN σ 1 8) nC nP (vN σ 6) c) (d + 1) z s = dyF l p nC m (stN σ) (dV (vN σ 1 8) nC nP (vN σ 6) c) d (yrF l p nC m (z, stN σ)).1 (s + dV (vN σ 1 8) nC nP (vN σ 6) c (yrF l p nC m (z, stN σ)).2) from rfl] at hQ
    by_cases g : c = -1
    · rw [if_pos g]
      unfold w_X1_placesReached
      rw [bd_eq]
      refine ⟨nC + 1, ?_⟩
      have key := cP_l (J := fun (x1 : Int32) (σ2 : Sg) => w_J6_bitCount_0f7a4 x1 σ2 (fun r4 σ3 => bd (s + r4) fun x11 => w_X1_byDraws_l50 (nI Y) (nI m) c Q (d + 1) (yrF l p nC m (z, stN σ)).1 x11 (nI (y + 1)) σ3)) hL hS1 ?_ nC 0 (by omega)
      · rw [show bN nP (fun q => anyT (fun k => nr (vN σ 1 8) ((yrF l p nC m (z, stN σ)).2 k / 8) (vN σ 6 q)) 0) = 0 from bN_0 nP] at key
        exact key
      · show w_J6_bitCount_0f7a4 _ _ _
        rw [bc_x (Nat.lt_of_lt_of_le (bN_lt _ _) (p8 h8')), pc_bN _ h8', bd_eq]
        refine ih _ (fun τ' hD' => ?_)
        have := hQ τ' hD'
        rw [show dV (vN σ 1 8) nC nP (vN σ 6) c (yrF l p nC m (z, stN σ)).2 = nI (cP (vN σ 1 8) nC nP (vN σ 6) (yrF l p nC m (z, stN σ)).2) from if_pos g] at this
        exact this
    · rw [if_neg g]
      obtain ⟨q, hq, rfl⟩ := hc.resolve_left g
      obtain ⟨s1, s2⟩ := hL.2.2.2.1 q hq
      rw [cl_nI (by omega), s1]
      refine ⟨vp_nI (by omega) (by decide), nC + 1, cC_l hL hS1 s2 ?_ nC 0 (by omega)⟩
      dsimp only
      rw [bd_eq]
      refine ih _ (fun τ' hD' => ?_)
      have := hQ τ' hD'
      rw [show dV (vN σ 1 8) nC nP (vN σ 6) (nI q) (yrF l p nC m (z, stN σ)).2 = nI (cC (vN σ 1 8) nC (yrF l p nC m (z, stN σ)).2 (vN σ 6 (nI q).toNatClampNeg)) from if_neg g, cl_nI (by omega)] at this
      exact this
theorem sta_x {σ : Sg} {nC nP : Nat} {g : Int32 → Int32 → Int32 → Int32 → Int32 → Int32 → Int32} {J : Sg → Prop} (hB : Bs σ nC nP) (h3 : G3 g) (hX : XL σ g) : ∀ (d i M : Nat) (τ : Sg), i + d = nC → Fx σ τ → (∀ k, k < i → CoK τ k (vN σ 4 k) (lP g σ k (vN σ 4 k))) → IKb M τ → M + d < 100000 →
    (∀ τ', XD σ τ' nC (M + d) (fun k => lP g σ k (vN σ 4 k)) (vN σ 4) → J τ') → w_X1_byDraws_l3 J (d + 1) (nI i) τ
  | 0, i, M, τ, h, hF, hC, hK, hM, hJ => by
    have h6 := hB.1.1
    have : i = nC := by omega
    subst this
    unfold w_X1_byDraws_l3
    rw [hF.lo (c := 1) (by omega), hB.1.2.2.1, if_pos (nI_le (Nat.le_refl _) (by omega))]
    exact hJ τ ⟨hF, hC, hK⟩
  | d + 1, i, M, τ, h, hF, hC, hK, hM, hJ => by
    have h6 := hB.1.1
    have hi : i < nC := by omega
    obtain ⟨⟨c1, c2⟩, ⟨c3, c4⟩, ⟨c5, c6, c7⟩, ⟨c8, c9⟩⟩ := hB.2.1 i hi
    have hv := vp_nI (show i < 6 by omega) (show 6 < 1000000 by decide)
    unfold w_X1_byDraws_l3
    rw [hF.lo (c := 1) (by omega), hB.1.2.2.1, if_neg (nI_ge (by omega) (by omega)), cl_nI (by omega), hF.lo (c := 4) (by omega), c5, nI_1]
    refine ⟨hv, hv, start_x (by omega) h3 (XL_c hX (hF.lo (by omega)) hF.2.1) (by rw [hF.lo (c := 5) (by omega), c8]) c9 (by rw [hF.lo (c := 1) (by omega), hB.2.2.2.2.1]) hB.2.2.2.2.2 hK (by omega) (fun τ1 hs hC1 hK1 => ?_)⟩
    rw [hF.lo (c := 1) (by omega)] at hC1
    refine sta_x hB h3 hX d (i + 1) (M + 1) τ1 (by omega) (hF.trans (hs.x (by omega))) (fun k hk => ?_) hK1 (by omega) (fun τ' hD => hJ τ' (by rw [show M + (d + 1) = M + 1 + d by omega]; exact hD))
    by_cases e : k = i
    · subst e; exact hC1
    · exact CoK_c (hC k (by omega)) (hs.1 9 (by omega)) (by rw [hs.1 8 (by omega)]) (by rw [hs.1 1 (by omega)]) (by rw [hs.1 1 (by omega)]) (by rw [hs.1 5 (by omega)]) (fun j _ => by rw [hs.1 _ (by omega)]) (hs.1 _ (by omega))
/-! the reference's -/
def MS (τ : Sg) (nC : Nat) (S : Nat → Nat) : Prop := ∀ k, k < nC → τ.1 82 k = nI (S k / 8) ∧ τ.1 83 k = nI (S k % 8) ∧ S k < 2048
theorem hz_m {σ ρ : Sg} {nC nP t : Nat} {g : Int32 → Int32 → Int32 → Int32 → Int32 → Int32 → Int32} {J : Int32 → Sg → Prop} {a : Int32 × (Nat → Nat)} (hB : Bs σ nC nP) (hq : Mq σ) (h3 : G3 g) (hM : ML σ g) (hF : Fx σ ρ) (ht : t < 1000)
    (hJ : ∀ τ', Fm ρ τ' → MS τ' nC (hzF (fun k => lP g σ k (vN σ 4 k)) (vN σ 4) t nC a).2 → J (hzF (fun k => lP g σ k (vN σ 4 k)) (vN σ 4) t nC a).1 τ') : ∀ (d i : Nat) (τ : Sg), i + d = nC → Fm ρ τ → MS τ nC (hzF (fun k => lP g σ k (vN σ 4 k)) (vN σ 4) t i a).2 → w_X12_drawn_l125 (nI t) J (d + 1) (hzF (fun k => lP g σ k (vN σ 4 k)) (vN σ 4) t i a).1 (nI i) τ
  | 0, i, τ, h, hm, hS => by
    have h6 := hB.1.1
    have : i = nC := by omega
    subst this
    unfold w_X12_drawn_l125
    rw [hm.2.1 1 (by decide) (by decide) (by decide), (c60_x hq hB hF).1, if_pos (nI_le (Nat.le_refl _) (by omega))]
    exact hJ τ hm hS
  | d + 1, i, τ, h, hm, hS => by
    have h6 := hB.1.1
    have hi : i < nC := by omega
    obtain ⟨⟨c1, c2⟩, ⟨c3, c4⟩, ⟨c5, c6, c7⟩, ⟨c8, c9⟩⟩ := hB.2.1 i hi
    obtain ⟨s1, s2, s3⟩ := hS i hi
    have hv := vp_nI (show i < 6 by omega) (show 6 < 1000000 by decide)
    unfold w_X12_drawn_l125
    rw [hm.2.1 1 (by decide) (by decide) (by decide), (c60_x hq hB hF).1, if_neg (nI_ge (by omega) (by omega)), bd_eq, cl_nI (by omega), s1, nI_1]
    refine ⟨hv, ?_⟩
    rw [bd_eq, rd_ne (show 83 ≠ 60 by decide), s2]
    refine ⟨hv, ?_⟩
    rw [bd_eq]
    have hm2 : Fm ρ (sI (sI τ 60 30 (nI ((hzF (fun k => lP g σ k (vN σ 4 k)) (vN σ 4) t i a).2 i / 8))) 60 31 (nI ((hzF (fun k => lP g σ k (vN σ 4 k)) (vN σ 4) t i a).2 i % 8))) := hm.trans (((Fr.set6 (Or.inl rfl)).trans (Fr.set6 (Or.inr (Or.inl rfl)))).m)
    have hG : GM (sI (sI τ 60 30 (nI ((hzF (fun k => lP g σ k (vN σ 4 k)) (vN σ 4) t i a).2 i / 8))) 60 31 (nI ((hzF (fun k => lP g σ k (vN σ 4 k)) (vN σ 4) t i a).2 i % 8))) i (vN σ 4 i) (lP g σ i (vN σ 4 i)) := GM_m (GM_of hB hq h3 hM hi (fun c h1 h2 => hF.lo (by omega)) (by rw [hF.lo (by omega)])) hm2
    refine hour_q (s := (hzF (fun k => lP g σ k (vN σ 4 k)) (vN σ 4) t i a).2 i) (by omega) hG s3 ht (by omega) (dB_3 _) ⟨by rw [rd_in, if_neg (by decide), rd_in, if_pos rfl], by rw [rd_in, if_pos rfl]⟩ (fun τ1 hf _ hA1 => ?_)
    rw [bd_eq, hA1.1, rd_ne (show 60 ≠ 82 by decide), hA1.2, bd_eq]
    refine ⟨hv, hv, ?_⟩
    refine hz_m (a := a) hB hq h3 hM hF ht hJ d (i + 1) _ (by omega) (hm2.trans (hf.m.trans ((Fm.set (by decide)).trans (Fm.set (by decide))))) (fun k hk => ?_)
    have e35 : (hzF (fun k => lP g σ k (vN σ 4 k)) (vN σ 4) t (i + 1) a).2 k = if k = i then nx (lP g σ i (vN σ 4 i)) (vN σ 4 i) ((hzF (fun k => lP g σ k (vN σ 4 k)) (vN σ 4) t i a).2 i) t (dB (zn (hzF (fun k => lP g σ k (vN σ 4 k)) (vN σ 4) t i a).1)) else (hzF (fun k => lP g σ k (vN σ 4 k)) (vN σ 4) t i a).2 k := rfl
    rw [e35, rd_ne (show 82 ≠ 83 by decide), rd_in, rd_in]
    by_cases e : k = i
    · rw [if_pos e, if_pos e, if_pos e]
      exact ⟨rfl, rfl, nx_lt s3⟩
    · rw [if_neg e, if_neg e, if_neg e, rd_ne (show 83 ≠ 82 by decide), hf.1 82 (by decide) (by decide) (by decide), hf.1 83 (by decide) (by decide) (by decide), rd_ne (by decide), rd_ne (by decide), rd_ne (by decide), rd_ne (by decide)]
      exact hS k hk
theorem yr_m {σ ρ : Sg} {nC nP m Y : Nat} {g : Int32 → Int32 → Int32 → Int32 → Int32 → Int32 → Int32} {J : Int32 → Sg → Prop} {a : Int32 × (Nat → Nat)} (hB : Bs σ nC nP) (hq : Mq σ) (h3 : G3 g) (hM : ML σ g) (hF : Fx σ ρ) (hm : m ≤ 40) (hb : (100 * Y + m) < 100000)
    (hJ : ∀ τ', Fm ρ τ' → MS τ' nC (yrF (fun k => lP g σ k (vN σ 4 k)) (vN σ 4) nC m a).2 → J (yrF (fun k => lP g σ k (vN σ 4 k)) (vN σ 4) nC m a).1 τ') : ∀ (d t : Nat) (τ : Sg), t + d = m → Fm ρ τ → MS τ nC (yrF (fun k => lP g σ k (vN σ 4 k)) (vN σ 4) nC t a).2 → w_X12_drawn_l113 (nI (100 * Y + m)) J (d + 1) (yrF (fun k => lP g σ k (vN σ 4 k)) (vN σ 4) nC t a).1 (nI t) τ
  | 0, t, τ, h, hf, hS => by
    have : t = m := by omega
    subst this
    have er : nI (100 * Y + t) - nI (100 * Y + t) / (100 : Int32) * (100 : Int32) = nI ((100 * Y + t) % 100) := pk_rem (d := 100) (by omega) (by decide) (by decide)
    unfold w_X12_drawn_l113
    rw [er, show (100 * Y + t) % 100 = t by omega, if_pos (nI_le (Nat.le_refl _) (by omega))]
    exact hJ τ hf hS
  | d + 1, t, τ, h, hf, hS => by
    have er : nI (100 * Y + m) - nI (100 * Y + m) / (100 : Int32) * (100 : Int32) = nI ((100 * Y + m) % 100) := pk_rem (d := 100) (by omega) (by decide) (by decide)
    unfold w_X12_drawn_l113
    rw [er, show (100 * Y + m) % 100 = m by omega, if_neg (nI_ge (by omega) (by omega)), bd_eq]
    refine ⟨nC + 1, hz_m (a := yrF (fun k => lP g σ k (vN σ 4 k)) (vN σ 4) nC t a) hB hq h3 hM hF (by omega) (fun τ1 hf1 hS1 => ?_) nC 0 τ (by omega) hf hS⟩
    rw [nI_1]
    exact yr_m (a := a) hB hq h3 hM hF hm hb hJ d (t + 1) τ1 (by omega) hf1 hS1
theorem st_m {σ ρ : Sg} {nC nP : Nat} {J : Sg → Prop} (hB : Bs σ nC nP) (hq : Mq σ) (hF : Fx σ ρ) (hJ : ∀ τ', Fm ρ τ' → MS τ' nC (stN σ) → J τ') : ∀ (d i : Nat) (τ : Sg), i + d = nC → Fm ρ τ → (∀ k, k < i → τ.1 82 k = nI (stN σ k / 8) ∧ τ.1 83 k = nI (stN σ k % 8)) → w_X12_drawn_l67 J (d + 1) (nI i) τ
  | 0, i, τ, h, hm, hS => by
    have h6 := hB.1.1
    have : i = nC := by omega
    subst this
    unfold w_X12_drawn_l67
    rw [hm.2.1 1 (by decide) (by decide) (by decide), (c60_x hq hB hF).1, if_pos (nI_le (Nat.le_refl _) (by omega))]
    exact hJ τ hm (fun k hk => ⟨(hS k hk).1, (hS k hk).2, stN_lt hB hk⟩)
  | d + 1, i, τ, h, hm, hS => by
    have h6 := hB.1.1
    have hi : i < nC := by omega
    obtain ⟨⟨c1, c2⟩, ⟨c3, c4⟩, ⟨c5, c6, c7⟩, ⟨c8, c9⟩⟩ := hB.2.1 i hi
    have hv := vp_nI (show i < 6 by omega) (show 6 < 1000000 by decide)
    unfold w_X12_drawn_l67
    rw [hm.2.1 1 (by decide) (by decide) (by decide), (c60_x hq hB hF).1, if_neg (nI_ge (by omega) (by omega)), cl_nI (by omega), hm.1 61 (by decide) (by decide), hF.lo (c := 61) (by omega), hq.1.1, c1, bd_eq, rd_ne (show 62 ≠ 82 by decide), hm.1 62 (by decide) (by decide), hF.lo (c := 62) (by omega), hq.1.2.1, c3, bd_eq, nI_1]
    refine ⟨hv, hv, hv, hv, st_m hB hq hF hJ d (i + 1) _ (by omega) (hm.trans ((Fm.set (by decide)).trans (Fm.set (by decide)))) (fun k hk => ?_)⟩
    rw [rd_ne (show 82 ≠ 83 by decide), rd_in, rd_in]
    by_cases e : k = i
    · subst e
      rw [if_pos rfl, if_pos rfl]
      unfold stN
      exact ⟨by congr 1; omega, by congr 1; omega⟩
    · rw [if_neg e, if_neg e, rd_ne (show 83 ≠ 82 by decide)]
      exact hS k (by omega)
theorem many_m {τ : Sg} {nC nP r q : Nat} {sp wo S : Nat → Nat} {Q : Int32 → Sg → Prop} (hL : LM τ nC nP r sp wo) (hS : MS τ nC S) (hq : q < nP) (hQ : Q (nI (cC r nC S (sp q))) τ) : ∀ (d i : Nat), i + d = nC → w_X12_manyNear_l4 (nI q) Q (d + 1) (nI (cnt (fun k => nr r (S k / 8) (sp q)) i)) (nI i) τ
  | 0, i, h => by
    obtain ⟨⟨l1, l2, l3⟩, l4, l5, l6, l7, l8⟩ := id hL
    have : i = nC := by omega
    subst this
    unfold w_X12_manyNear_l4
    rw [l4, if_pos (nI_le (Nat.le_refl _) (by omega))]
    exact hQ
  | d + 1, i, h => by
    obtain ⟨⟨l1, l2, l3⟩, l4, l5, l6, l7, l8⟩ := id hL
    obtain ⟨s1, s2, s3⟩ := hS i (by omega)
    have ih := many_m hL hS hq hQ d (i + 1) (by omega)
    rw [show cnt (fun k => nr r (S k / 8) (sp q)) (i + 1) = cnt (fun k => nr r (S k / 8) (sp q)) i + if nr r (S i / 8) (sp q) = true then 1 else 0 from rfl] at ih
    unfold w_X12_manyNear_l4
    rw [l4, if_neg (nI_ge (by omega) (by omega)), cl_nI (by omega), cl_nI (by omega), s1, (l6 q hq).1, nrM (by omega) (l6 q hq).2 l3 l8, bd_eq, nI_1, nI_1]
    refine ⟨vp_nI (by omega) (by decide), vp_nI (by omega) (by decide), ?_⟩
    by_cases g : nr r (S i / 8) (sp q) = true
    · rw [if_pos g] at ih
      rw [if_pos g, if_neg one_ne]
      exact ih
    · rw [if_neg g] at ih
      rw [if_neg g, if_pos rfl]
      exact ih
theorem cnt_any {f : Nat → Bool} {n : Nat} : anyT f n = decide (0 < cnt f n) := by
  cases h : anyT f n with
  | true =>
    obtain ⟨i, hi, h2⟩ := anyT_iff.mp h
    have : cnt (fun _ => false) n < cnt f n := cnt_lt (fun j _ h => absurd h (by decide)) ⟨i, hi, rfl, h2⟩
    exact (decide_eq_true (by omega)).symm
  | false =>
    have : cnt f n ≤ cnt (fun _ => false) n := cnt_mono (fun i hi h2 => by
      have := anyT_iff.mpr ⟨i, hi, h2⟩
      rw [h] at this
      exact absurd this (by decide))
    have z : ∀ m, cnt (fun _ => false) m = 0 := by
      intro m
      induction m with
      | zero => rfl
      | succ m ih => show cnt _ m + _ = 0; rw [ih]; rfl
    rw [z] at this
    exact (decide_eq_false (by omega)).symm
theorem plc_m {τ : Sg} {nC nP r : Nat} {sp wo S : Nat → Nat} {Q : Int32 → Sg → Prop} (hL : LM τ nC nP r sp wo) (hS : MS τ nC S) (hQ : Q (nI (cP r nC nP sp S)) τ) : ∀ (d i : Nat), i + d = nP → w_X12_placesNear_l4 Q (d + 1) (nI (cnt (fun q => anyT (fun k => nr r (S k / 8) (sp q)) nC) i)) (nI i) τ
  | 0, i, h => by
    obtain ⟨⟨l1, l2, l3⟩, l4, l5, l6, l7, l8⟩ := id hL
    have : i = nP := by omega
    subst this
    unfold w_X12_placesNear_l4
    rw [l5, if_pos (nI_le (Nat.le_refl _) (by omega))]
    exact hQ
  | d + 1, i, h => by
    obtain ⟨⟨l1, l2, l3⟩, l4, l5, l6, l7, l8⟩ := id hL
    have ih := plc_m hL hS hQ d (i + 1) (by omega)
    rw [show cnt (fun q => anyT (fun k => nr r (S k / 8) (sp q)) nC) (i + 1) = cnt (fun q => anyT (fun k => nr r (S k / 8) (sp q)) nC) i + if anyT (fun k => nr r (S k / 8) (sp i)) nC = true then 1 else 0 from rfl] at ih
    unfold w_X12_placesNear_l4
    rw [l5, if_neg (nI_ge (by omega) (by omega)), nI_1]
    refine ⟨nC + 1, many_m hL hS (q := i) (by omega) ?_ nC 0 (by omega)⟩
    have hcl := cnt_le (fun k => nr r (S k / 8) (sp i)) nC
    rw [bd_eq, nI_1]
    have ea : anyT (fun k => nr r (S k / 8) (sp i)) nC = decide (0 < cC r nC S (sp i)) := cnt_any
    by_cases g : 0 < cC r nC S (sp i)
    · rw [ea, decide_eq_true g, if_pos rfl] at ih
      rw [if_neg (show ¬ nI (cC r nC S (sp i)) ≤ 0 from nI_nle g (by unfold cC; omega))]
      exact ih
    · rw [ea, decide_eq_false g, if_neg (by decide)] at ih
      rw [if_pos (show nI (cC r nC S (sp i)) ≤ 0 by rw [show cC r nC S (sp i) = 0 by omega]; decide)]
      exact ih
theorem dy_m {σ ρ : Sg} {nC nP m Y : Nat} {g : Int32 → Int32 → Int32 → Int32 → Int32 → Int32 → Int32} {c : Int32} {Q : Int32 → Sg → Prop} (hB : Bs σ nC nP) (hq : Mq σ) (h3 : G3 g) (hM : ML σ g) (hF : Fx σ ρ) (hm : m ≤ 40) (hY : Y ≤ 30) (hc : c = -1 ∨ CR nP c) : ∀ (d y : Nat) (z s : Int32) (τ : Sg), y + d = Y → Fm ρ τ →
    (∀ τ', Fm ρ τ' → Q (dyF (fun k => lP g σ k (vN σ 4 k)) (vN σ 4) nC m (stN σ) (dV (vN σ 1 8) nC nP (vN σ 6) c) d z s) τ') → w_X12_drawn_l55 (nI (100 * Y + m)) c Q (d + 1) z s (nI y) τ
  | 0, y, z, s, τ, h, hf, hQ => by
    have ed : nI (100 * Y + m) / (100 : Int32) = nI ((100 * Y + m) / 100) := pk_div (d := 100) (by omega) (by decide) (by decide)
    unfold w_X12_drawn_l55
    rw [ed, show (100 * Y + m) / 100 = Y by omega, if_pos (nI_le (by omega) (by omega))]
    exact hQ τ hf
  | d + 1, y, z, s, τ, h, hf, hQ => by
    have ed : nI (100 * Y + m) / (100 : Int32) = nI ((100 * Y + m) / 100) := pk_div (d := 100) (by omega) (by decide) (by decide)
    have h6 := hB.1.1
    unfold w_X12_drawn_l55
    rw [ed, show (100 * Y + m) / 100 = Y by omega, if_neg (nI_ge (by omega) (by omega)), bd_eq, nI_1]
    refine ⟨nC + 1, st_m hB hq hF (fun τ1 hf1 hS1 => ?_) nC 0 τ (by omega) hf (fun k hk => by omega)⟩
    rw [bd_eq]
    refine ⟨m + 1, yr_m (a := (z, stN σ)) hB hq h3 hM hF hm (by omega) (fun τ2 hf2 hS2 => ?_) m 0 τ1 (by omega) hf1 hS1⟩
    rw [bd_eq]
    have hL := LM_of hB hq hF hf2
    have ih := fun s' => dy_m (Q := Q) hB hq h3 hM hF hm hY hc d (y + 1) (yrF (fun k => lP g σ k (vN σ 4 k)) (vN σ 4) nC m (z, stN σ)).1 s' τ2 (by omega) hf2
    rw [show dyF (fun k => lP g σ k (vN σ 4 k)) (vN σ 4) nC m (stN σ) (dV (vN σ 1 8) nC nP (vN σ 6) c) (d + 1) z s = dyF (fun k => lP g σ k (vN σ 4 k)) (vN σ 4) nC m (stN σ) (dV (vN σ 1 8) nC nP (vN σ 6) c) d (yrF (fun k => lP g σ k (vN σ 4 k)) (vN σ 4) nC m (z, stN σ)).1 (s + dV (vN σ 1 8) nC nP (vN σ 6) c (yrF (fun k => lP g σ k (vN σ 4 k)) (vN σ 4) nC m (z, stN σ)).2) from rfl] at hQ
    by_cases gc : c = -1
    · rw [if_neg (show ¬ (0 : Int32) ≤ c by rw [gc]; decide)]
      refine ⟨nP + 1, plc_m hL hS2 ?_ nP 0 (by omega)⟩
      dsimp only
      rw [bd_eq]
      refine ih _ (fun τ' hD' => ?_)
      have := hQ τ' hD'
      rw [show dV (vN σ 1 8) nC nP (vN σ 6) c (yrF (fun k => lP g σ k (vN σ 4 k)) (vN σ 4) nC m (z, stN σ)).2 = nI (cP (vN σ 1 8) nC nP (vN σ 6) (yrF (fun k => lP g σ k (vN σ 4 k)) (vN σ 4) nC m (z, stN σ)).2) from if_pos gc] at this
      exact this
    · obtain ⟨q, hq', rfl⟩ := hc.resolve_left gc
      have := hB.1.2.1
      rw [if_pos (show (0 : Int32) ≤ nI q from nI_pos' (by omega))]
      refine ⟨nC + 1, many_m hL hS2 hq' ?_ nC 0 (by omega)⟩
      dsimp only
      rw [bd_eq]
      refine ih _ (fun τ' hD' => ?_)
      have := hQ τ' hD'
      rw [show dV (vN σ 1 8) nC nP (vN σ 6) (nI q) (yrF (fun k => lP g σ k (vN σ 4 k)) (vN σ 4) nC m (z, stN σ)).2 = nI (cC (vN σ 1 8) nC (yrF (fun k => lP g σ k (vN σ 4 k)) (vN σ 4) nC m (z, stN σ)).2 (vN σ 6 (nI q).toNatClampNeg)) from if_neg gc, cl_nI (by omega)] at this
      exact this
/-- years and hours of one number -/
def YR (a : Int32) : Prop := ∃ Y m, 1 ≤ Y ∧ Y ≤ 30 ∧ 1 ≤ m ∧ m ≤ 40 ∧ a = nI (100 * Y + m)
theorem yr_of {a : Int32} (h : ¬ a < 0) : ∃ n, n < 2 ^ 31 ∧ a = nI n ∧ a / (100 : Int32) = nI (n / 100) ∧ a - a / (100 : Int32) * (100 : Int32) = nI (n % 100) ∧ (YR a ↔ inR (nI (n / 100)) 1 30 ∧ inR (nI (n % 100)) 1 40) := by
  obtain ⟨n, hn, rfl⟩ := nI_of h
  refine ⟨n, hn, rfl, pk_div (d := 100) hn (by decide) (by decide), pk_rem (d := 100) hn (by decide) (by decide), ?_⟩
  unfold inR
  rw [nI_toInt (show n / 100 < 2 ^ 31 by omega), nI_toInt (show n % 100 < 2 ^ 31 by omega)]
  constructor
  · rintro ⟨Y, m, h1, h2, h3, h4, e⟩
    have := (nI_eq hn (by omega)).mp e
    omega
  · rintro ⟨h1, h2⟩
    exact ⟨n / 100, n % 100, by omega, by omega, by omega, by omega, by congr 1; omega⟩
theorem drawn_m {nP : Nat} {a b c : Int32} {σ : Sg} {Q : Int32 → Sg → Prop} (hp : nP ≤ 8) (e : σ.1 60 6 = nI nP) (h1 : YR b → (c = -1 ∨ CR nP c) → ∃ n, w_X12_drawn_l55 b c Q n a (0 : Int32) (0 : Int32) σ) (h0 : ¬ (YR b ∧ (c = -1 ∨ CR nP c)) → Q (-1) σ) : w_X12_drawn a b c σ Q := by
  unfold w_X12_drawn
  by_cases g : b < 0
  · rw [if_pos g]
    exact h0 (fun ⟨⟨Y, m, q1, q2, q3, q4, e⟩, _⟩ => absurd (e ▸ g) (nI_pos (by omega)))
  · rw [if_neg g]
    obtain ⟨n, hn, hb, e1, e2, hy⟩ := yr_of g
    rw [e2, e1]
    refine in_m (a := 1) (b := 30) (by decide) (by decide) (fun p1 => ?_) (fun p1 => by rw [if_pos rfl]; exact h0 (fun q => p1 (hy.mp q.1).1))
    rw [if_neg one_ne]
    refine in_m (a := 1) (b := 40) (by decide) (by decide) (fun p2 => ?_) (fun p2 => by rw [if_pos rfl]; exact h0 (fun q => p2 (hy.mp q.1).2))
    rw [if_neg one_ne, e]
    refine in_m (a := -1) (b := (nP : Int) - 1) (by decide) (nI_sub1 (by omega)) (fun p3 => ?_) (fun p3 => ?_)
    · rw [if_neg one_ne]
      refine h1 (hy.mpr ⟨p1, p2⟩) ?_
      have q1 := p3.1
      have q2 := p3.2
      by_cases z : c.toInt = -1
      · exact Or.inl (Int32.toInt_inj.mp (by rw [z]; decide))
      · exact Or.inr ⟨c.toInt.toNat, by omega, toInt_nat (by omega) (by omega)⟩
    · rw [if_pos rfl]
      refine h0 (fun q => p3 ?_)
      rcases q.2 with z | ⟨k, hk, z⟩
      · rw [z]; exact ⟨by decide, by rw [show (-1 : Int32).toInt = -1 by decide]; omega⟩
      · rw [z]
        unfold inR
        rw [nI_toInt (by omega)]
        omega
theorem op_drawn {N : Nat} {σ : Sg} (hI : Inv N σ) (hN : N < 600) (a b c : Int32) {Q : Int32 → Int32 → Sg → Prop} (hQ : ∀ r σ', Inv (N + 1) σ' → Q r r σ') : w_X11_drawn a b c σ (fun r σ1 => w_X12_drawn a b c σ1 (fun r' σ2 => Q r r' σ2)) := by
  obtain ⟨nC, nP, g, hB, hq, h3, hX, hM⟩ := Inv_get hI
  have hK := Inv_K hI
  have hU := Inv_up hI
  obtain ⟨hn, hp, en, ep⟩ := hB.1
  have c60 := c60_x hq hB (Fx.refl σ)
  have bad : ¬ (YR b ∧ (c = -1 ∨ CR nP c)) → w_X12_drawn a b c σ (fun r' σ2 => Q (-1) r' σ2) := fun h => drawn_m hp c60.2 (fun h1 h2 => absurd ⟨h1, h2⟩ h) (fun _ => hQ _ _ hU)
  unfold w_X11_drawn
  by_cases gb : b < 0
  · rw [if_pos gb]
    exact bad (fun ⟨⟨Y, m, q1, q2, q3, q4, e⟩, _⟩ => absurd (e ▸ gb) (nI_pos (by omega)))
  · rw [if_neg gb]
    obtain ⟨n, hn', hb, e1, e2, hy⟩ := yr_of gb
    rw [e2, e1]
    refine within_x (a := 1) (b := 30) (by decide) (by decide) (fun p1 => ?_) (fun p1 => by rw [if_pos rfl]; exact bad (fun q => p1 (hy.mp q.1).1))
    rw [if_neg one_ne]
    refine within_x (a := 1) (b := 40) (by decide) (by decide) (fun p2 => ?_) (fun p2 => by rw [if_pos rfl]; exact bad (fun q => p2 (hy.mp q.1).2))
    rw [if_neg one_ne, bd_eq]
    have hyr := hy.mpr ⟨p1, p2⟩
    have run : (c = -1 ∨ CR nP c) → w_X1_byDraws a (nI (n / 100)) (nI (n % 100)) c σ (fun r7 σ6 => w_X12_drawn a b c σ6 (fun r' σ2 => Q r7 r' σ2)) := by
      intro hc
      have q1 := p1.2
      have q2 := p2.2
      rw [nI_toInt (by omega)] at q1 q2
      unfold w_X1_byDraws
      rw [bd_eq]
      refine ⟨nC + 1, sta_x hB h3 hX nC 0 (16 * N) σ (by omega) (Fx.refl σ) (fun k hk => by omega) hK (by omega) (fun τ1 hD1 => ⟨n / 100 + 1, ?_⟩)⟩
      refine dy_x hB (fun k hk => by have := (hB.2.1 k hk).2.2.1.2.2; omega) (by omega) (by omega) (by omega) hc (n / 100) 0 a 0 τ1 (by omega) hD1 (fun τ2 hD2 => ?_)
      have hF2 := hD2.1
      refine drawn_m hp (c60_x hq hB hF2).2 (fun _ _ => ⟨n / 100 + 1, ?_⟩) (fun h => absurd ⟨hyr, hc⟩ h)
      rw [hb, show nI n = nI (100 * (n / 100) + n % 100) by congr 1; omega]
      exact dy_m hB hq h3 hM hF2 (by omega) (by omega) hc (n / 100) 0 a 0 τ2 (by omega) (Fm.refl _) (fun τ3 hf3 => hQ _ _ (th_e hI hF2 hD2.2.2 (by omega) hf3))
    by_cases gc : c = -1
    · rw [if_pos gc]
      exact run (Or.inl gc)
    · rw [if_neg gc]
      refine place_x (by omega) ep (fun hc => ?_) (fun hc => ?_)
      · rw [if_neg one_ne]
        exact run (Or.inr hc)
      · rw [if_pos rfl]
        exact bad (fun q => q.2.elim gc hc)
