/-! bits, and how far apart -/
def bN : Nat → (Nat → Bool) → Nat
  | 0, _ => 0
  | m + 1, P => bN m P + if P m = true then 2 ^ m else 0
theorem bN_lt : ∀ (m : Nat) (P : Nat → Bool), bN m P < 2 ^ m
  | 0, _ => Nat.zero_lt_one
  | m + 1, P => by
    have := bN_lt m P
    show bN m P + (if P m = true then 2 ^ m else 0) < 2 ^ (m + 1)
    rw [Nat.pow_succ]
    split <;> omega
theorem add_or {a i : Nat} (h : a < 2 ^ i) : a + 2 ^ i = a ||| 2 ^ i := by
  have := Nat.two_pow_add_eq_or_of_lt h 1
  rw [Nat.mul_one] at this
  rw [Nat.add_comm, this, Nat.or_comm]
theorem bN_bit : ∀ (m : Nat) (P : Nat → Bool) (i : Nat), (bN m P).testBit i = (decide (i < m) && P i)
  | 0, _, i => by simp [bN]
  | m + 1, P, i => by
    show (bN m P + (if P m = true then 2 ^ m else 0)).testBit i = _
    by_cases h : P m = true
    · rw [if_pos h, add_or (bN_lt m P), Nat.testBit_or, bN_bit m P i, Nat.testBit_two_pow]
      by_cases h1 : i < m
      · simp [h1, show i < m + 1 by omega, show ¬ m = i by omega]
      · by_cases h2 : m = i
        · subst h2; simp [h]
        · simp [h1, h2, show ¬ i < m + 1 by omega]
    · rw [if_neg h, Nat.add_zero, bN_bit m P i]
      by_cases h1 : i < m
      · simp [h1, show i < m + 1 by omega]
      · by_cases h2 : i = m
        · subst h2; simp [h]
        · simp [h1, show ¬ i < m + 1 by omega]
theorem bN_or (m : Nat) (P R : Nat → Bool) : bN m P ||| bN m R = bN m (fun i => P i || R i) := by
  apply Nat.eq_of_testBit_eq
  intro i
  rw [Nat.testBit_or, bN_bit, bN_bit, bN_bit]
  cases decide (i < m) <;> simp
theorem bN_and (m : Nat) (P R : Nat → Bool) : bN m P &&& bN m R = bN m (fun i => P i && R i) := by
  apply Nat.eq_of_testBit_eq
  intro i
  rw [Nat.testBit_and, bN_bit, bN_bit, bN_bit]
  cases decide (i < m) <;> simp
theorem bN_congr {m : Nat} {P R : Nat → Bool} (h : ∀ i, i < m → P i = R i) : bN m P = bN m R := by
  apply Nat.eq_of_testBit_eq
  intro i
  rw [bN_bit, bN_bit]
  by_cases hi : i < m
  · rw [h i hi]
  · simp [hi]
theorem bN_0 (m : Nat) : bN m (fun _ => false) = 0 := by
  apply Nat.eq_of_testBit_eq
  intro i
  rw [bN_bit]; simp
theorem bN_eq0 {m : Nat} {P : Nat → Bool} : bN m P = 0 ↔ ∀ i, i < m → P i = false := by
  constructor
  · intro h i hi
    have := bN_bit m P i
    rw [h] at this
    simpa [hi] using this.symm
  · intro h
    rw [← bN_0 m]
    exact bN_congr h
theorem bN_inj {m : Nat} {P R : Nat → Bool} (h : bN m P = bN m R) : ∀ i, i < m → P i = R i := by
  intro i hi
  have h1 := bN_bit m P i
  have h2 := bN_bit m R i
  rw [h] at h1
  rw [h1] at h2
  simpa [hi] using h2
theorem nI_or (a b : Nat) : nI a ||| nI b = nI (a ||| b) := by
  apply Int32.toBitVec_inj.1
  show BitVec.ofNat 32 a ||| BitVec.ofNat 32 b = BitVec.ofNat 32 (a ||| b)
  apply BitVec.eq_of_getLsbD_eq
  intro i hi
  simp [hi]
theorem nI_and (a b : Nat) : nI a &&& nI b = nI (a &&& b) := by
  apply Int32.toBitVec_inj.1
  show BitVec.ofNat 32 a &&& BitVec.ofNat 32 b = BitVec.ofNat 32 (a &&& b)
  apply BitVec.eq_of_getLsbD_eq
  intro i hi
  simp [hi]
theorem sm_n : ∀ n, n < 32 → ((nI n &&& 31).toBitVec.smod 32).toNat = n := by decide +kernel
theorem one_sh {i : Nat} (h : i < 31) : (1 : Int32) <<< (nI i &&& 31) = nI (2 ^ i) := by
  have := pk_shlN (n := 1) (nI i &&& 31) i (sm_n i (by omega)) (by have := Nat.pow_lt_pow_right (a := 2) (by decide) (show i < 32 by omega); omega)
  rw [Nat.one_mul] at this
  exact this
theorem n_sh {n i : Nat} (h : i < 31) (hn : n * 2 ^ i < 2 ^ 32) : nI n <<< (nI i &&& 31) = nI (n * 2 ^ i) := pk_shlN (nI i &&& 31) i (sm_n i (by omega)) hn
theorem n_shr {n i : Nat} (h : i < 31) (hn : n < 2 ^ 31) : nI n >>> (nI i &&& 31) = nI (n / 2 ^ i) := pk_shrN hn (nI i &&& 31) i (sm_n i (by omega))
theorem bN_set {m : Nat} {P : Nat → Bool} (hm : m < 31) (h : P m = true) : nI (bN m P) ||| ((1 : Int32) <<< (nI m &&& 31)) = nI (bN (m + 1) P) := by
  rw [one_sh hm, nI_or, ← add_or (bN_lt m P)]
  congr 1
  show _ = bN m P + (if P m = true then 2 ^ m else 0)
  rw [if_pos h]
theorem bN_not {m : Nat} {P : Nat → Bool} (h : P m = false) : bN (m + 1) P = bN m P := by
  show bN m P + (if P m = true then 2 ^ m else 0) = _
  rw [if_neg (by rw [h]; decide)]
  rfl
theorem div_bit (n i : Nat) : n / 2 ^ i % 2 = if n.testBit i = true then 1 else 0 := by
  rw [Nat.testBit_eq_decide_div_mod_eq]
  by_cases h : n / 2 ^ i % 2 = 1
  · simp [h]
  · simp [h]; omega
theorem bit_of {m i : Nat} {P : Nat → Bool} (hm : m < 31) (hi : i < m) : ((nI (bN m P) >>> (nI i &&& 31)) &&& (1 : Int32)) = if P i = true then 1 else 0 := by
  have h1 : bN m P < 2 ^ 31 := Nat.lt_trans (bN_lt m P) (Nat.pow_lt_pow_right (by decide) hm)
  have h2 : bN m P / 2 ^ i < 2 ^ 31 := Nat.lt_of_le_of_lt (Nat.div_le_self _ _) h1
  rw [n_shr (by omega) h1, show (1 : Int32) = nI 1 from rfl, nI_and, Nat.and_one_is_mod, div_bit, bN_bit]
  simp only [hi, decide_true, Bool.true_and]
  split <;> rfl
def dst (x y : Nat) : Nat := (x - y) + (y - x)
def ap (a b : Nat) : Nat := max (dst (a % 16) (b % 16)) (dst (a / 16) (b / 16))
theorem ap_lt {a b : Nat} (ha : a < 256) (hb : b < 256) : ap a b < 16 := by
  unfold ap dst
  omega
theorem abs_n {x y : Nat} (hx : x < 1000000) (hy : y < 1000000) : iabs (nI x - nI y) = nI (dst x y) := by
  unfold iabs dst
  by_cases h : y ≤ x
  · rw [pk_sub h, if_pos (nI_pos' (by omega))]
    congr 1; omega
  · have h1 : nI x - nI y < 0 := pk_sneg (by omega) (by omega)
    have h2 : ¬ (0 : Int32) ≤ nI x - nI y := by
      rw [i32_lt] at h1
      rw [i32_le]
      omega
    rw [if_neg h2]
    have : (0 : Int32) - (nI x - nI y) = nI y - nI x := by rw [Int32.zero_sub, Int32.neg_sub]
    rw [this, pk_sub (by omega)]
    congr 1; omega
theorem apart_x {a b : Nat} (ha : a < 256) (hb : b < 256) {σ : Sg} {Q : Int32 → Sg → Prop} : w_X7_apart (nI a) (nI b) σ Q = Q (nI (ap a b)) σ := by
  unfold w_X7_apart
  rw [an15 (by omega), an15 (by omega), sh4 (by omega), sh4 (by omega), abs_n (by omega) (by omega), abs_n (by omega) (by omega)]
  have h1 : dst (a % 16) (b % 16) < 1000 := by unfold dst; omega
  have h2 : dst (a / 16) (b / 16) < 1000 := by unfold dst; omega
  rw [imax_n (by omega) (by omega)]
  rfl
theorem near_x {a b r : Nat} (ha : a < 256) (hb : b < 256) (hr : r < 1000) {σ : Sg} (h : σ.1 1 8 = nI r) {Q : Int32 → Sg → Prop} : w_X7_near (nI a) (nI b) σ Q = Q (if ap a b ≤ r then 1 else 0) σ := by
  unfold w_X7_near
  rw [apart_x ha hb, h]
  have := ap_lt ha hb
  by_cases g : ap a b ≤ r
  · rw [if_neg (nI_nlt g (by omega)), if_pos g]
  · rw [if_pos (nI_lt (by omega) (by omega)), if_neg g]
theorem gap_m {x y : Nat} (hx : x < 1000000) (hy : y < 1000000) {σ : Sg} {Q : Int32 → Sg → Prop} : w_X12_gap (nI x) (nI y) σ Q = Q (nI (dst x y)) σ := by
  unfold w_X12_gap dst
  by_cases h : y ≤ x
  · rw [if_pos (nI_le h (by omega)), pk_sub h]
    congr 2; omega
  · rw [if_neg (nI_ge (by omega) (by omega)), pk_sub (by omega)]
    congr 2; omega
theorem rem16 {a : Nat} (ha : a < 1000000) : nI a - nI a / (16 : Int32) * (16 : Int32) = nI (a % 16) := pk_rem (d := 16) (by omega) (by decide) (by decide)
theorem div16 {a : Nat} (ha : a < 1000000) : nI a / (16 : Int32) = nI (a / 16) := pk_div (d := 16) (by omega) (by decide) (by decide)
theorem rem10 {a : Nat} (ha : a < 2 ^ 31) : nI a - nI a / (10 : Int32) * (10 : Int32) = nI (a % 10) := pk_rem (d := 10) (by omega) (by decide) (by decide)
theorem div10 {a : Nat} (ha : a < 2 ^ 31) : nI a / (10 : Int32) = nI (a / 10) := pk_div (d := 10) (by omega) (by decide) (by decide)
theorem apart_m {a b : Nat} (ha : a < 256) (hb : b < 256) {σ : Sg} {Q : Int32 → Sg → Prop} : w_X12_apart (nI a) (nI b) σ Q = Q (nI (ap a b)) σ := by
  unfold w_X12_apart
  rw [rem16 (by omega), rem16 (by omega), div16 (by omega), div16 (by omega), gap_m (by omega) (by omega), gap_m (by omega) (by omega)]
  have h1 : dst (a % 16) (b % 16) < 1000 := by unfold dst; omega
  have h2 : dst (a / 16) (b / 16) < 1000 := by unfold dst; omega
  unfold ap
  by_cases g : dst (a % 16) (b % 16) ≤ dst (a / 16) (b / 16)
  · rw [if_pos (nI_le g (by omega)), Nat.max_eq_right g]
  · rw [if_neg (nI_ge (by omega) (by omega)), Nat.max_eq_left (by omega)]
theorem near_m {a b r : Nat} (ha : a < 256) (hb : b < 256) (hr : r < 1000) {σ : Sg} (h : σ.1 67 0 = nI r) {Q : Int32 → Sg → Prop} : w_X12_nearTo (nI a) (nI b) σ Q = Q (if ap a b ≤ r then 1 else 0) σ := by
  unfold w_X12_nearTo
  rw [apart_m ha hb, show (Int32.toNatClampNeg 0) = 0 from rfl, h]
  have := ap_lt ha hb
  by_cases g : ap a b ≤ r
  · rw [if_neg (nI_nlt g (by omega)), if_pos g]
  · rw [if_pos (nI_lt (by omega) (by omega)), if_neg g]
