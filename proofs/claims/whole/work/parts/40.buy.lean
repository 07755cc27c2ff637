/-! buy -/
theorem sIr_sI {σ : Sg} {c k : Nat} {v : Int32} {f : Nat → Int32} : sIr (sI σ c k v) c f = sIr σ c f := by
  unfold sIr sI
  refine Prod.ext ?_ rfl
  funext c'
  by_cases h : c' = c
  · simp [h]
  · simp [h]
theorem sIr_self {σ : Sg} {c : Nat} : sIr σ c (σ.1 c) = σ := by
  unfold sIr
  refine Prod.ext ?_ rfl
  funext c'
  by_cases h : c' = c
  · simp [h]
  · simp [h]
theorem fill_l {c n : Nat} {v : Int32} {Q : Sg → Prop} (hn : n < 10000) : ∀ (d i : Nat) (σ : Sg), i + d = n → Q (sIr σ c (fun j => if i ≤ j ∧ j < n then v else σ.1 c j)) → w_J7_fill_53178_l5 c n v Q (nI n) (d + 1) (nI i) σ
  | 0, i, σ, h, hQ => by
    have : i = n := by omega
    subst this
    unfold w_J7_fill_53178_l5
    rw [if_pos (nI_le (Nat.le_refl _) (by omega))]
    have e : (fun j => if i ≤ j ∧ j < i then v else σ.1 c j) = σ.1 c := by
      funext j
      rw [if_neg (by omega)]
    rw [e, sIr_self] at hQ
    exact hQ
  | d + 1, i, σ, h, hQ => by
    unfold w_J7_fill_53178_l5
    rw [if_neg (nI_ge (by omega) (by omega)), cl_nI (by omega), bd_eq, nI_1]
    refine ⟨vp_nI (by omega) (by omega), fill_l hn d (i + 1) _ (by omega) ?_⟩
    rw [sIr_sI]
    have e : (fun j => if i + 1 ≤ j ∧ j < n then v else (sI σ c i v).1 c j) = (fun j => if i ≤ j ∧ j < n then v else σ.1 c j) := by
      funext j
      rw [rd_in]
      by_cases h1 : j = i
      · subst h1
        rw [if_neg (by omega), if_pos rfl, if_pos (by omega)]
      · by_cases h2 : i + 1 ≤ j ∧ j < n
        · rw [if_pos h2, if_pos (by omega)]
        · rw [if_neg h2, if_neg h1, if_neg (by omega)]
    rw [e]
    exact hQ
theorem fill_x {c n : Nat} {v : Int32} {σ : Sg} {Q : Sg → Prop} (hn : n < 10000) (hQ : Q (sIr σ c (fun j => if j < n then v else σ.1 c j))) : w_J7_fill_53178 c n v σ Q := by
  unfold w_J7_fill_53178
  rw [bd_eq]
  have e : (fun j => if 0 ≤ j ∧ j < n then v else σ.1 c j) = (fun j => if j < n then v else σ.1 c j) := by
    funext j
    simp
  exact ⟨n + 1, fill_l hn n 0 σ (by omega) (by rw [e]; exact hQ)⟩
theorem bit_n {s i : Nat} (hs : s < 2 ^ 31) (hi : i < 31) : ((nI s >>> (nI i &&& 31)) &&& (1 : Int32)) = if s.testBit i = true then 1 else 0 := by
  rw [n_shr hi hs, show (1 : Int32) = nI 1 from rfl, nI_and, Nat.and_one_is_mod, div_bit]
  split <;> rfl
def pc (v : Nat) : Nat := cnt v.testBit 8
def bcV (a0 : Int32) : Int32 :=
  let x1 := a0 - (((a0.toUInt32 >>> (Int32.toUInt32 (1 : Int32) &&& Int32.toUInt32 31)).toInt32) &&& (1431655765 : Int32))
  let x2 := (x1 &&& (858993459 : Int32)) + (((x1.toUInt32 >>> (Int32.toUInt32 (2 : Int32) &&& Int32.toUInt32 31)).toInt32) &&& (858993459 : Int32))
  let x3 := (x2 + ((x2.toUInt32 >>> (Int32.toUInt32 (4 : Int32) &&& Int32.toUInt32 31)).toInt32)) &&& (252645135 : Int32)
  let x4 := x3 + ((x3.toUInt32 >>> (Int32.toUInt32 (8 : Int32) &&& Int32.toUInt32 31)).toInt32)
  let x5 := x4 + ((x4.toUInt32 >>> (Int32.toUInt32 (16 : Int32) &&& Int32.toUInt32 31)).toInt32)
  x5 &&& (63 : Int32)
theorem bc1 : ∀ v, v < 256 → bcV (nI v) = nI (pc v) := by decide +kernel
theorem bc_x {v : Nat} (hv : v < 256) {σ : Sg} {Q : Int32 → Sg → Prop} : w_J6_bitCount_0f7a4 (nI v) σ Q = Q (nI (pc v)) σ := by
  rw [← bc1 v hv]
  simp only [w_J6_bitCount_0f7a4, bd_eq]
  rfl
theorem pc_le (v : Nat) : pc v ≤ 8 := cnt_le _ _
theorem bo1 : ∀ v, v < 256 → v ≠ 0 → (nI v &&& (nI v - 1)) = nI (v &&& (v - 1)) ∧ pc (v &&& (v - 1)) + 1 = pc v ∧ v &&& (v - 1) < v := by decide +kernel
theorem bo_l {σ : Sg} {Q : Int32 → Sg → Prop} : ∀ (d v a : Nat), v < 256 → v ≤ d → Q (nI (a + pc v)) σ → w_X12_bitsOf_l4 Q (d + 1) (nI a) (nI v) σ
  | 0, v, a, hv, hd, hQ => by
    have : v = 0 := by omega
    subst this
    unfold w_X12_bitsOf_l4
    rw [if_pos nI_0]
    exact hQ
  | d + 1, v, a, hv, hd, hQ => by
    unfold w_X12_bitsOf_l4
    by_cases h : v = 0
    · subst h
      rw [if_pos nI_0]
      exact hQ
    · obtain ⟨b1, b2, b3⟩ := bo1 v hv h
      rw [if_neg (nI_ne0 (by omega) (by omega)), bd_eq, b1, nI_1]
      refine bo_l d _ (a + 1) (by omega) (by omega) ?_
      rw [show a + 1 + pc (v &&& (v - 1)) = a + pc v by omega]
      exact hQ
theorem bo_m {v : Nat} (hv : v < 256) {σ : Sg} {Q : Int32 → Sg → Prop} (hQ : Q (nI (pc v)) σ) : w_X12_bitsOf (nI v) σ Q := ⟨v + 1, bo_l v v 0 hv (Nat.le_refl _) (by rw [Nat.zero_add]; exact hQ)⟩
theorem cnt_ext (P : Nat → Bool) (m : Nat) : ∀ d, cnt (fun i => decide (i < m) && P i) (m + d) = cnt P m
  | 0 => cnt_congr (fun i hi => by simp [show i < m by omega])
  | d + 1 => by
    show cnt (fun i => decide (i < m) && P i) (m + d) + _ = _
    rw [cnt_ext P m d, if_neg (by show ¬ (decide (m + d < m) && P (m + d)) = true; rw [decide_eq_false (show ¬ m + d < m by omega), Bool.false_and]; decide)]
    rfl
theorem pc_bN {m : Nat} (P : Nat → Bool) (hm : m ≤ 8) : pc (bN m P) = cnt P m := by
  unfold pc
  have e : (fun i => (bN m P).testBit i) = (fun i => decide (i < m) && P i) := by
    funext i
    exact bN_bit m P i
  show cnt (fun i => (bN m P).testBit i) 8 = _
  rw [e, show 8 = m + (8 - m) by omega]
  exact cnt_ext P m _
/-- of carriage k, place p: whether it comes near by n hours -/
def VV (r n : Nat) (sp : Nat → Nat) (S : Nat → Nat → Nat) (k p : Nat) : Bool := anyT (fun t => nr r (S k t / 8) (sp p)) (n + 1)
def fS (nC nP : Nat) (V : Nat → Nat → Bool) (s : Nat) : Nat → Bool := fun k => anyT (fun p => s.testBit p && V k p) nP
theorem pas1_x {σ0 : Sg} {nC nP r k : Nat} {sp wo : Nat → Nat} {P : Nat → Bool} {J : Sg → Prop} {f : Nat → Nat} (hk : k < 6) (hf : ∀ p, p < nP → f p < 2 ^ k) (hJ : ∀ σ', Fx σ0 σ' → (∀ c, c ≠ 30 → σ'.1 c = σ0.1 c) → (∀ p, p < nP → σ'.1 30 p = nI (f p + if P p = true then 2 ^ k else 0)) → J σ') :
    ∀ (d i : Nat) (σ : Sg), i + d = nP → LX σ nC nP r sp wo → Fx σ0 σ → (∀ c, c ≠ 30 → σ.1 c = σ0.1 c) → (∀ p, p < nP → σ.1 30 p = nI (f p + if p < i ∧ P p = true then 2 ^ k else 0)) → w_X6_findPassers_l31 (nI k) (nI (bN nP P)) J (d + 1) (nI i) σ
  | 0, i, σ, h, hL, hF, hc, hp => by
    obtain ⟨⟨l1, l2, l3⟩, l4, l5, l6, l7, l8⟩ := id hL
    have : i = nP := by omega
    subst this
    unfold w_X6_findPassers_l31
    rw [l5, if_pos (nI_le (Nat.le_refl _) (by omega))]
    refine hJ σ hF hc (fun p hp' => ?_)
    rw [hp p hp']
    simp [hp']
  | d + 1, i, σ, h, hL, hF, hc, hp => by
    obtain ⟨⟨l1, l2, l3⟩, l4, l5, l6, l7, l8⟩ := id hL
    unfold w_X6_findPassers_l31
    rw [l5, if_neg (nI_ge (by omega) (by omega)), cl_nI (by omega), hp i (by omega), if_neg (by omega), Nat.add_zero, bit_of (by omega) (by omega), bd_eq, nI_1]
    refine ⟨vp_nI (by omega) (by decide), vp_nI (by omega) (by decide), ?_⟩
    have e : nI (f i) ||| ((if P i = true then (1 : Int32) else 0) <<< (nI k &&& 31)) = nI (f i + if P i = true then 2 ^ k else 0) := by
      by_cases g : P i = true
      · rw [if_pos g, if_pos g, one_sh (by omega), nI_or, add_or (hf i (by omega))]
      · rw [if_neg g, if_neg g, ← nI_0, n_sh (by omega) (by rw [Nat.zero_mul]; decide), Nat.zero_mul, nI_or, Nat.or_zero, Nat.add_zero]
    rw [e]
    refine pas1_x (nC := nC) (r := r) (sp := sp) (wo := wo) hk hf hJ d (i + 1) _ (by omega) ?_ (hF.trans (Fx.set (by omega))) (fun c h' => by rw [rd_ne h', hc c h']) (fun p hp' => ?_)
    · refine ⟨⟨l1, l2, l3⟩, by rw [rd_ne (by decide), l4], by rw [rd_ne (by decide), l5], fun q hq => ?_, fun q hq => ?_, by rw [rd_ne (by decide), l8]⟩
      · rw [rd_ne (by decide)]; exact l6 q hq
      · rw [rd_ne (by decide)]; exact l7 q hq
    · rw [rd_in]
      by_cases e2 : p = i
      · subst e2
        rw [if_pos rfl]
        by_cases g : P p = true
        · rw [if_pos g, if_pos ⟨by omega, g⟩]
        · rw [if_neg g, if_neg (fun q => g q.2)]
      · rw [if_neg e2, hp p hp']
        by_cases g : p < i ∧ P p = true
        · rw [if_pos g, if_pos ⟨by omega, g.2⟩]
        · rw [if_neg g, if_neg (fun q => g ⟨by omega, q.2⟩)]
theorem pas_x {σ0 : Sg} {nC nP r n : Nat} {sp wo : Nat → Nat} {S : Nat → Nat → Nat} {Q : Sg → Prop} (hn : n ≤ 60) (hL : LX σ0 nC nP r sp wo) (hJ : ∀ k, k < nC → JX σ0 k n (S k)) (hQ : ∀ σ', Fx σ0 σ' → (∀ c, c ≠ 30 → σ'.1 c = σ0.1 c) → (∀ p, p < nP → σ'.1 30 p = nI (bN nC (fun k => VV r n sp S k p))) → Q σ') :
    ∀ (d i : Nat) (σ : Sg), i + d = nC → Fx σ0 σ → (∀ c, c ≠ 30 → σ.1 c = σ0.1 c) → (∀ p, p < nP → σ.1 30 p = nI (bN i (fun k => VV r n sp S k p))) → w_X6_findPassers_l10 (nI n) Q (d + 1) (nI i) σ
  | 0, i, σ, h, hF, hc, hp => by
    obtain ⟨⟨l1, l2, l3⟩, l4, l5, l6, l7, l8⟩ := id hL
    have : i = nC := by omega
    subst this
    unfold w_X6_findPassers_l10
    rw [hc 1 (by decide), l4, if_pos (nI_le (Nat.le_refl _) (by omega))]
    exact hQ σ hF hc hp
  | d + 1, i, σ, h, hF, hc, hp => by
    obtain ⟨⟨l1, l2, l3⟩, l4, l5, l6, l7, l8⟩ := id hL
    have hL' : LX σ nC nP r sp wo := by
      refine ⟨⟨l1, l2, l3⟩, by rw [hc 1 (by decide), l4], by rw [hc 1 (by decide), l5], fun q hq => ?_, fun q hq => ?_, by rw [hc 1 (by decide), l8]⟩
      · rw [hc 6 (by decide)]; exact l6 q hq
      · rw [hc 7 (by decide)]; exact l7 q hq
    have hJ' : JX σ i n (S i) := fun t ht => by
      rw [hc 29 (by decide)]; exact hJ i (by omega) t ht
    unfold w_X6_findPassers_l10
    rw [hc 1 (by decide), l4, if_neg (nI_ge (by omega) (by omega))]
    refine passed_x hL' hJ' (by omega) hn ?_
    rw [bd_eq, nI_1]
    refine ⟨nP + 1, pas1_x (σ0 := σ0) (nC := nC) (r := r) (sp := sp) (wo := wo) (k := i) (P := fun q => anyT (fun t => nr r (S i t / 8) (sp q)) (n + 1)) (f := fun p => bN i (fun k => VV r n sp S k p)) (by omega) (fun p _ => bN_lt _ _) (fun σ' hF' hc' hp' => ?_) nP 0 σ (by omega) hL' hF hc (fun p hp' => by rw [hp p hp', if_neg (by omega), Nat.add_zero])⟩
    exact pas_x hn hL hJ hQ d (i + 1) σ' (by omega) hF' hc' hp'
theorem find_x {σ0 : Sg} {nC nP r n : Nat} {sp wo : Nat → Nat} {S : Nat → Nat → Nat} {Q : Sg → Prop} (hn : n ≤ 60) (hL : LX σ0 nC nP r sp wo) (hJ : ∀ k, k < nC → JX σ0 k n (S k)) (hQ : ∀ σ', Fx σ0 σ' → (∀ c, c ≠ 30 → σ'.1 c = σ0.1 c) → (∀ p, p < nP → σ'.1 30 p = nI (bN nC (fun k => VV r n sp S k p))) → Q σ') : w_X6_findPassers (nI n) σ0 Q := by
  unfold w_X6_findPassers
  refine fill_x (by decide) ⟨nC + 1, pas_x hn hL hJ hQ nC 0 _ (by omega) (Fx.setr (by decide)) (fun c h => rdr_ne h) (fun p hp => ?_)⟩
  have := hL.1.2.1
  rw [rdr_eq, if_pos (by omega)]
  rfl
theorem pof_l {σ : Sg} {nC nP r s : Nat} {sp wo : Nat → Nat} {V : Nat → Nat → Bool} {Q : Int32 → Sg → Prop} (hL : LX σ nC nP r sp wo) (hs : s < 256) (hp : ∀ p, p < nP → σ.1 30 p = nI (bN nC (fun k => V k p))) (hQ : Q (nI (bN nC (fS nC nP V s))) σ) : ∀ (d i : Nat), i + d = nP → w_X6_passersOf_l4 (nI s) Q (d + 1) (nI (bN nC (fun k => anyT (fun p => s.testBit p && V k p) i))) (nI i) σ
  | 0, i, h => by
    obtain ⟨⟨l1, l2, l3⟩, l4, l5, l6, l7, l8⟩ := id hL
    have : i = nP := by omega
    subst this
    unfold w_X6_passersOf_l4
    rw [l5, if_pos (nI_le (Nat.le_refl _) (by omega))]
    exact hQ
  | d + 1, i, h => by
    obtain ⟨⟨l1, l2, l3⟩, l4, l5, l6, l7, l8⟩ := id hL
    unfold w_X6_passersOf_l4
    have ih := pof_l hL hs hp hQ d (i + 1) (by omega)
    rw [l5, if_neg (nI_ge (by omega) (by omega)), cl_nI (by omega), hp i (by omega), bit_n (by omega) (by omega), bd_eq, nI_1]
    by_cases g : s.testBit i = true
    · rw [if_pos g, if_pos rfl, bd_eq, nI_or, bN_or]
      refine ⟨vp_nI (by omega) (by decide), ?_⟩
      rw [bN_congr (R := fun k => anyT (fun p => s.testBit p && V k p) (i + 1)) (fun k _ => ?_)]
      · exact ih
      · show (anyT _ i || V k i) = (anyT _ i || (s.testBit i && V k i))
        rw [g, Bool.true_and]
    · rw [if_neg g, if_neg (by decide)]
      rw [bN_congr (R := fun k => anyT (fun p => s.testBit p && V k p) i) (fun k _ => ?_)] at ih
      · exact ih
      · show (anyT _ i || (s.testBit i && V k i)) = anyT _ i
        rw [Bool.eq_false_iff.mpr g, Bool.false_and, Bool.or_false]
theorem pof_x {σ : Sg} {nC nP r s : Nat} {sp wo : Nat → Nat} {V : Nat → Nat → Bool} {Q : Int32 → Sg → Prop} (hL : LX σ nC nP r sp wo) (hs : s < 256) (hp : ∀ p, p < nP → σ.1 30 p = nI (bN nC (fun k => V k p))) (hQ : Q (nI (bN nC (fS nC nP V s))) σ) : w_X6_passersOf (nI s) σ Q := by
  have key := pof_l hL hs hp hQ nP 0 (by omega)
  have e : bN nC (fun k => anyT (fun p => s.testBit p && V k p) 0) = 0 := bN_0 nC
  rw [e] at key
  exact ⟨nP + 1, key⟩
def fN (nC nP : Nat) (V : Nat → Nat → Bool) (s : Nat) : Nat := cnt (fS nC nP V s) nC
/-- the best sets -/
def bh (f : Nat → Nat) (K : Nat) : Nat → Nat
  | 0 => 0
  | i + 1 => if pc (i + 1) ≤ K ∧ (f (bh f K i) < f (i + 1) ∨ f (i + 1) = f (bh f K i) ∧ pc (i + 1) < pc (bh f K i)) then i + 1 else bh f K i
theorem bh_le (f : Nat → Nat) (K : Nat) : ∀ i, bh f K i ≤ i
  | 0 => Nat.le_refl _
  | i + 1 => by
    have := bh_le f K i
    rw [show bh f K (i + 1) = if pc (i + 1) ≤ K ∧ (f (bh f K i) < f (i + 1) ∨ f (i + 1) = f (bh f K i) ∧ pc (i + 1) < pc (bh f K i)) then i + 1 else bh f K i from rfl]
    split <;> omega
theorem bN_6 {m : Nat} {P : Nat → Bool} (hm : m ≤ 6) : bN m P < 256 := Nat.lt_of_lt_of_le (bN_lt m P) (Nat.pow_le_pow_right (by decide) (by omega) |> fun h => Nat.le_trans h (by decide : 2 ^ 6 ≤ 256))
theorem better_x {σ : Sg} {nC nP r s b : Nat} {sp wo : Nat → Nat} {V : Nat → Nat → Bool} {Q : Int32 → Sg → Prop} (hL : LX σ nC nP r sp wo) (hs : s < 256) (hb : b < 256) (hp : ∀ p, p < nP → σ.1 30 p = nI (bN nC (fun k => V k p))) (hQ : Q (if fN nC nP V b < fN nC nP V s ∨ fN nC nP V s = fN nC nP V b ∧ pc s < pc b then 1 else 0) σ) : w_X6_betterHouses (nI s) (nI b) σ Q := by
  have h6 := hL.1.1
  unfold w_X6_betterHouses
  refine pof_x hL hs hp ?_
  rw [bc_x (bN_6 h6), pc_bN _ (by omega)]
  refine pof_x hL hb hp ?_
  rw [bc_x (bN_6 h6), pc_bN _ (by omega), bd_eq]
  have q1 := cnt_le (fS nC nP V s) nC
  have q2 := cnt_le (fS nC nP V b) nC
  have ht := pk_sub_toInt (a := cnt (fS nC nP V s) nC) (b := cnt (fS nC nP V b) nC) (by omega) (by omega)
  have p1 := pc_le s
  have p2 := pc_le b
  unfold fN at hQ
  by_cases g1 : cnt (fS nC nP V b) nC < cnt (fS nC nP V s) nC
  · rw [if_pos (Or.inl g1)] at hQ
    rw [if_pos (by rw [i32_lt, ht, Int32.toInt_zero]; omega)]
    exact hQ
  · rw [if_neg (by rw [i32_lt, ht, Int32.toInt_zero]; omega)]
    by_cases g2 : cnt (fS nC nP V s) nC = cnt (fS nC nP V b) nC
    · rw [if_pos (Int32.toInt_inj.mp (by rw [ht, Int32.toInt_zero]; omega)), bc_x hs, bc_x hb]
      by_cases g3 : pc s < pc b
      · rw [if_pos (Or.inr ⟨g2, g3⟩)] at hQ
        rw [if_neg (nI_ge g3 (by omega))]
        exact hQ
      · rw [if_neg (fun q => q.elim g1 (fun q => g3 q.2))] at hQ
        rw [if_pos (nI_le (by omega) (by omega))]
        exact hQ
    · rw [if_neg (fun q => g2 (q.elim (fun q => absurd q g1) (fun q => q.1)))] at hQ
      rw [if_neg (fun q => by have := congrArg Int32.toInt q; rw [ht, Int32.toInt_zero] at this; omega)]
      exact hQ
theorem p8 {nP : Nat} (h : nP ≤ 8) : 2 ^ nP ≤ 256 := Nat.le_trans (Nat.pow_le_pow_right (by decide) h) (by decide : 2 ^ 8 ≤ 256)
theorem best_x {σ : Sg} {nC nP r K : Nat} {sp wo : Nat → Nat} {V : Nat → Nat → Bool} {Q : Int32 → Sg → Prop} (hL : LX σ nC nP r sp wo) (hK : K ≤ 3) (hp : ∀ p, p < nP → σ.1 30 p = nI (bN nC (fun k => V k p))) (hQ : Q (nI (bh (fN nC nP V) K (2 ^ nP - 1))) σ) : ∀ (d i : Nat), i + 1 + d = 2 ^ nP → w_X6_bestHouses_l10 (nI K) Q (d + 1) (nI (bh (fN nC nP V) K i)) (nI (i + 1)) σ
  | 0, i, h => by
    obtain ⟨⟨l1, l2, l3⟩, l4, l5, l6, l7, l8⟩ := id hL
    have h256 := p8 l2
    unfold w_X6_bestHouses_l10
    rw [l5, one_sh (by omega), if_pos (nI_le (by omega) (by omega))]
    rw [show 2 ^ nP - 1 = i by omega] at hQ
    exact hQ
  | d + 1, i, h => by
    obtain ⟨⟨l1, l2, l3⟩, l4, l5, l6, l7, l8⟩ := id hL
    have h256 := p8 l2
    have ih := best_x hL hK hp hQ d (i + 1) (by omega)
    have hb := bh_le (fN nC nP V) K i
    have hpc := pc_le (i + 1)
    unfold w_X6_bestHouses_l10
    rw [l5, one_sh (by omega), if_neg (nI_ge (by omega) (by omega)), bc_x (by omega), bd_eq, nI_1]
    have e : bh (fN nC nP V) K (i + 1) = if pc (i + 1) ≤ K ∧ (fN nC nP V (bh (fN nC nP V) K i) < fN nC nP V (i + 1) ∨ fN nC nP V (i + 1) = fN nC nP V (bh (fN nC nP V) K i) ∧ pc (i + 1) < pc (bh (fN nC nP V) K i)) then i + 1 else bh (fN nC nP V) K i := rfl
    rw [e] at ih
    by_cases g : pc (i + 1) ≤ K
    · rw [if_neg (nI_nlt g (by omega))]
      refine better_x hL (by omega) (by omega) hp ?_
      by_cases g2 : fN nC nP V (bh (fN nC nP V) K i) < fN nC nP V (i + 1) ∨ fN nC nP V (i + 1) = fN nC nP V (bh (fN nC nP V) K i) ∧ pc (i + 1) < pc (bh (fN nC nP V) K i)
      · rw [if_pos ⟨g, g2⟩] at ih
        rw [if_pos g2, if_neg one_ne]
        exact ih
      · rw [if_neg (fun q => g2 q.2)] at ih
        rw [if_neg g2, if_pos rfl]
        exact ih
    · rw [if_neg (fun q => g q.1)] at ih
      rw [if_pos (nI_lt (by omega) (by omega))]
      exact ih
theorem and_any {m s : Nat} {P : Nat → Bool} : bN m P &&& s = 0 ↔ anyT (fun p => s.testBit p && P p) m = false := by
  constructor
  · intro h
    cases hA : anyT (fun p => s.testBit p && P p) m with
    | false => rfl
    | true =>
      obtain ⟨p, h1, h2⟩ := anyT_iff.mp hA
      have := congrArg (fun x => x.testBit p) h
      simp only [Nat.testBit_and, bN_bit, Nat.zero_testBit, h1, decide_true, Bool.true_and] at this
      rw [Bool.and_comm] at h2
      rw [this] at h2
      exact absurd h2 (by decide)
  · intro h
    apply Nat.eq_of_testBit_eq
    intro p
    rw [Nat.testBit_and, bN_bit, Nat.zero_testBit]
    by_cases hp : p < m
    · cases hv : (P p && s.testBit p) with
      | false => rw [decide_eq_true hp, Bool.true_and, hv]
      | true =>
        have : anyT (fun p => s.testBit p && P p) m = true := anyT_iff.mpr ⟨p, hp, by rw [Bool.and_comm]; exact hv⟩
        rw [h] at this
        exact absurd this (by decide)
    · simp [hp]
theorem is_m {σ : Sg} {nC nP r n s : Nat} {sp wo : Nat → Nat} {S : Nat → Nat → Nat} {J : Int32 → Sg → Prop} (hL : LM σ nC nP r sp wo) (hJm : ∀ k, k < nC → JM σ k (S k)) (hn : n ≤ 60) (hs : s < 256) (hJ : J (nI (fN nC nP (VV r n sp S) s)) σ) : ∀ (d i : Nat), i + d = nC → w_X12_buy_l72 (nI n) (nI s) J (d + 1) (nI (cnt (fS nC nP (VV r n sp S) s) i)) (nI i) σ
  | 0, i, h => by
    obtain ⟨⟨l1, l2, l3⟩, l4, l5, l6, l7, l8⟩ := id hL
    have : i = nC := by omega
    subst this
    unfold w_X12_buy_l72
    rw [l4, if_pos (nI_le (Nat.le_refl _) (by omega))]
    exact hJ
  | d + 1, i, h => by
    obtain ⟨⟨l1, l2, l3⟩, l4, l5, l6, l7, l8⟩ := id hL
    have ih := is_m hL hJm hn hs hJ d (i + 1) (by omega)
    unfold w_X12_buy_l72
    rw [l4, if_neg (nI_ge (by omega) (by omega))]
    refine passed_m hL (hJm i (by omega)) (by omega) hn ?_
    have hlt : PB r nP n sp (S i) &&& s < 2 ^ 31 := Nat.lt_of_le_of_lt Nat.and_le_right (by omega)
    rw [bd_eq, nI_1, nI_1, nI_and]
    have e : cnt (fS nC nP (VV r n sp S) s) (i + 1) = cnt (fS nC nP (VV r n sp S) s) i + if fS nC nP (VV r n sp S) s i = true then 1 else 0 := rfl
    rw [e] at ih
    have ea : PB r nP n sp (S i) &&& s = 0 ↔ fS nC nP (VV r n sp S) s i = false := and_any
    by_cases g : fS nC nP (VV r n sp S) s i = true
    · rw [if_pos g] at ih
      rw [if_neg (fun q => by
        rw [← nI_0, nI_eq hlt (by decide)] at q
        rw [ea.mp q] at g
        exact absurd g (by decide))]
      exact ih
    · rw [if_neg g] at ih
      rw [ea.mpr (Bool.eq_false_iff.mpr g), if_pos nI_0]
      exact ih
theorem best_m {σ : Sg} {nC nP r n K : Nat} {sp wo : Nat → Nat} {S : Nat → Nat → Nat} {J : Int32 → Int32 → Sg → Prop} (hL : LM σ nC nP r sp wo) (hJm : ∀ k, k < nC → JM σ k (S k)) (hn : n ≤ 60) (hK : K ≤ 3) (hJ : J (nI (bh (fN nC nP (VV r n sp S)) K (2 ^ nP - 1))) (nI (fN nC nP (VV r n sp S) (bh (fN nC nP (VV r n sp S)) K (2 ^ nP - 1)))) σ) :
    ∀ (d i : Nat), i + 1 + d = 2 ^ nP → w_X12_buy_l43 (nI K) (nI n) J (d + 1) (nI (bh (fN nC nP (VV r n sp S)) K i)) (nI (fN nC nP (VV r n sp S) (bh (fN nC nP (VV r n sp S)) K i))) (nI (i + 1)) σ
  | 0, i, h => by
    obtain ⟨⟨l1, l2, l3⟩, l4, l5, l6, l7, l8⟩ := id hL
    have h256 := p8 l2
    unfold w_X12_buy_l43
    rw [l5, one_sh (by omega), if_pos (nI_le (by omega) (by omega))]
    rw [show 2 ^ nP - 1 = i by omega] at hJ
    exact hJ
  | d + 1, i, h => by
    obtain ⟨⟨l1, l2, l3⟩, l4, l5, l6, l7, l8⟩ := id hL
    have h256 := p8 l2
    have ih := best_m hL hJm hn hK hJ d (i + 1) (by omega)
    have hb := bh_le (fN nC nP (VV r n sp S)) K i
    have hpc := pc_le (i + 1)
    have hpb := pc_le (bh (fN nC nP (VV r n sp S)) K i)
    have q1 : fN nC nP (VV r n sp S) (i + 1) ≤ nC := cnt_le _ _
    have q2 : fN nC nP (VV r n sp S) (bh (fN nC nP (VV r n sp S)) K i) ≤ nC := cnt_le _ _
    unfold w_X12_buy_l43
    rw [l5, one_sh (by omega), if_neg (nI_ge (by omega) (by omega))]
    refine bo_m (by omega) ?_
    rw [bd_eq, nI_1]
    have e : bh (fN nC nP (VV r n sp S)) K (i + 1) = if pc (i + 1) ≤ K ∧ (fN nC nP (VV r n sp S) (bh (fN nC nP (VV r n sp S)) K i) < fN nC nP (VV r n sp S) (i + 1) ∨ fN nC nP (VV r n sp S) (i + 1) = fN nC nP (VV r n sp S) (bh (fN nC nP (VV r n sp S)) K i) ∧ pc (i + 1) < pc (bh (fN nC nP (VV r n sp S)) K i)) then i + 1 else bh (fN nC nP (VV r n sp S)) K i := rfl
    rw [e] at ih
    by_cases g : pc (i + 1) ≤ K
    · rw [if_pos (nI_le g (by omega)), bd_eq]
      refine ⟨nC + 1, is_m hL hJm hn (by omega) ?_ nC 0 (by omega)⟩
      show if _ then _ else _
      by_cases g1 : fN nC nP (VV r n sp S) (i + 1) < fN nC nP (VV r n sp S) (bh (fN nC nP (VV r n sp S)) K i)
      · rw [if_neg (fun q => by omega)] at ih
        rw [if_pos (nI_lt g1 (by omega))]
        exact ih
      · rw [if_neg (nI_nlt (by omega) (by omega)), bd_eq]
        by_cases g2 : fN nC nP (VV r n sp S) (i + 1) = fN nC nP (VV r n sp S) (bh (fN nC nP (VV r n sp S)) K i)
        · rw [if_pos (by rw [g2])]
          refine bo_m (by omega) (bo_m (by omega) ?_)
          by_cases g3 : pc (i + 1) < pc (bh (fN nC nP (VV r n sp S)) K i)
          · rw [if_pos ⟨g, Or.inr ⟨g2, g3⟩⟩] at ih
            rw [if_pos (nI_lt g3 (by omega))]
            exact ih
          · rw [if_neg (fun q => q.2.elim (fun q => by omega) (fun q => g3 q.2))] at ih
            rw [if_neg (nI_nlt (by omega) (by omega))]
            exact ih
        · rw [if_pos ⟨g, Or.inl (by omega)⟩] at ih
          rw [if_neg (fun q => g2 ((nI_eq (by omega) (by omega)).mp q))]
          exact ih
    · rw [if_neg (fun q => g q.1)] at ih
      rw [if_neg (nI_ge (by omega) (by omega))]
      exact ih
theorem fN_0 {nC nP : Nat} {V : Nat → Nat → Bool} : fN nC nP V 0 = 0 := by
  have : cnt (fS nC nP V 0) nC = cnt (fun _ => false) nC := cnt_congr (fun k _ => by
    unfold fS
    cases hA : anyT (fun p => Nat.testBit 0 p && V k p) nP with
    | false => rfl
    | true =>
      obtain ⟨p, _, h⟩ := anyT_iff.mp hA
      simp at h)
  unfold fN
  rw [this]
  clear this
  induction nC with
  | zero => rfl
  | succ n ih => show cnt _ n + _ = 0; rw [ih]; rfl
theorem buy_b {a b c : Int32} {σ : Sg} {Q : Int32 → Sg → Prop} (h : ¬ (inR a 1 3 ∧ inR b 0 30 ∧ inR c 0 1)) (hQ : Q (-1) σ) : w_X12_buy a b c σ Q := by
  unfold w_X12_buy
  refine in_m (a := 1) (b := 3) (by decide) (by decide) (fun h1 => ?_) (fun _ => by rw [if_pos rfl]; exact hQ)
  rw [if_neg one_ne]
  refine in_m (a := 0) (b := 30) (by decide) (by decide) (fun h2 => ?_) (fun _ => by rw [if_pos rfl]; exact hQ)
  rw [if_neg one_ne]
  exact in_m (a := 0) (b := 1) (by decide) (by decide) (fun h3 => absurd ⟨h1, h2, h3⟩ h) (fun _ => by rw [if_pos rfl]; exact hQ)
theorem op_buy {N : Nat} {σ : Sg} (hI : Inv N σ) (hN : N < 600) (a b c : Int32) {Q : Int32 → Int32 → Sg → Prop} (hQ : ∀ r σ', Inv (N + 1) σ' → Q r r σ') : w_X11_buy a b c σ (fun r σ1 => w_X12_buy a b c σ1 (fun r' σ2 => Q r r' σ2)) := by
  obtain ⟨nC, nP, g, hB, hq, h3, hX, hM⟩ := Inv_get hI
  have hK := Inv_K hI
  obtain ⟨hn, hp, en, ep⟩ := hB.1
  unfold w_X11_buy
  refine within_x (a := 1) (b := 3) (by decide) (by decide) (fun h1 => ?_) (fun h => by rw [if_pos rfl]; exact buy_b (fun q => h q.1) (hQ _ _ (Inv_up hI)))
  rw [if_neg one_ne]
  refine within_x (a := 0) (b := 30) (by decide) (by decide) (fun h2 => ?_) (fun h => by rw [if_pos rfl]; exact buy_b (fun q => h q.2.1) (hQ _ _ (Inv_up hI)))
  rw [if_neg one_ne]
  refine within_x (a := 0) (b := 1) (by decide) (by decide) (fun h3' => ?_) (fun h => by rw [if_pos rfl]; exact buy_b (fun q => h q.2.2) (hQ _ _ (Inv_up hI)))
  rw [if_neg one_ne]
  obtain ⟨K, hK3, rfl⟩ := inR_num (v := a) (b := 3) ⟨by have := h1.1; omega, h1.2⟩ (by decide)
  obtain ⟨n, hn30, rfl⟩ := inR_num (b := 30) h2 (by decide)
  refine followAll_x hB h3 hX (by omega) hK (by omega) (fun σ1 hF hK1 ht => ?_)
  unfold w_X6_bestHouses
  refine find_x (S := TR g σ) (by omega) (LX_of hB hF) (fun k hk t h => ⟨ht k hk t h, TR_lt hB hk t⟩) (fun σ2 hF2' hc2 hp2 => ?_)
  have hF2 := hF.trans hF2'
  have hL := LX_of hB hF2
  have hK2 : IKb (16 * N + 6) σ2 := IKb_c hK1 (Nat.le_refl _) (fun k hk => ⟨fun i _ => by rw [hc2 _ (by omega)], hc2 _ (by omega)⟩)
  have h256 := p8 hp
  have hpos : 0 < 2 ^ nP := Nat.pow_pos (by decide)
  have hbl := bh_le (fN nC nP (VV (vN σ 1 8) n (vN σ 6) (TR g σ))) K (2 ^ nP - 1)
  have mrun : ∀ v : Int32, v = (if c = 0 then nI (fN nC nP (VV (vN σ 1 8) n (vN σ 6) (TR g σ)) (bh (fN nC nP (VV (vN σ 1 8) n (vN σ 6) (TR g σ))) K (2 ^ nP - 1))) else nI (bh (fN nC nP (VV (vN σ 1 8) n (vN σ 6) (TR g σ))) K (2 ^ nP - 1))) → w_X12_buy (nI K) (nI n) c σ2 (fun r' σ2 => Q v r' σ2) := by
    intro v ev
    unfold w_X12_buy
    refine in_m (a := 1) (b := 3) (by decide) (by decide) (fun _ => ?_) (fun h => absurd h1 h)
    rw [if_neg one_ne]
    refine in_m (a := 0) (b := 30) (by decide) (by decide) (fun _ => ?_) (fun h => absurd h2 h)
    rw [if_neg one_ne]
    refine in_m (a := 0) (b := 1) (by decide) (by decide) (fun _ => ?_) (fun h => absurd h3' h)
    rw [if_neg one_ne]
    refine layAll_m hB hq h3 hM hF2 (fun σ3 hr ht3 => ?_)
    have hLm := LM_of hB hq hF2 hr.m
    have hI' := th_e hI hF2 hK2 (by omega) hr.m
    rw [bd_eq]
    have key := best_m (σ := σ3) (J := fun (x8 : Int32) (x9 : Int32) (σ10 : Sg) => if c = 0 then (Q v x9 σ10) else (Q v x8 σ10)) (S := TR g σ) (n := n) (K := K) hLm (fun k hk t h => ⟨ht3 k hk t h, TR_lt hB hk t⟩) (by omega) hK3 ?_ (2 ^ nP - 1) 0 (by omega)
    · have e0 : bh (fN nC nP (VV (vN σ 1 8) n (vN σ 6) (TR g σ))) K 0 = 0 := rfl
      rw [e0, fN_0] at key
      exact ⟨_, key⟩
    · show if c = 0 then _ else _
      by_cases c0 : c = 0
      · rw [if_pos c0] at ev ⊢
        rw [← ev]; exact hQ _ _ hI'
      · rw [if_neg c0] at ev ⊢
        rw [← ev]; exact hQ _ _ hI'
  have key := best_x (σ := σ2) (K := K) (V := VV (vN σ 1 8) n (vN σ 6) (TR g σ)) (Q := fun r9 σ8 => if c = (1 : Int32) then (w_X12_buy (nI K) (nI n) c σ8 (fun r' σ2 => Q r9 r' σ2)) else (w_X6_passersOf r9 σ8 (fun r11 σ10 => w_J6_bitCount_0f7a4 r11 σ10 (fun r13 σ12 => w_X12_buy (nI K) (nI n) c σ12 (fun r' σ2 => Q r13 r' σ2))))) hL hK3 hp2 ?_ (2 ^ nP - 1) 0 (by omega)
  · have e0 : bh (fN nC nP (VV (vN σ 1 8) n (vN σ 6) (TR g σ))) K 0 = 0 := rfl
    rw [e0] at key
    exact ⟨_, key⟩
  · show if c = 1 then _ else _
    rcases one_of h3' with c0 | c0
    · rw [if_neg (by rw [c0]; decide)]
      refine pof_x hL (by omega) hp2 ?_
      rw [bc_x (bN_6 hn), pc_bN _ (by omega)]
      exact mrun _ (by rw [if_pos c0]; rfl)
    · rw [if_pos c0]
      exact mrun _ (by rw [if_neg (by rw [c0]; decide)])
