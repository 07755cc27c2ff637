/-! the fewest reins: the reference's -/
theorem nI_xor1 (a : Nat) : nI a ^^^ (-1 : Int32) = nI (a ^^^ 4294967295) := by
  apply Int32.toBitVec_inj.1
  show BitVec.ofNat 32 a ^^^ BitVec.ofNat 32 4294967295 = BitVec.ofNat 32 (a ^^^ 4294967295)
  apply BitVec.eq_of_getLsbD_eq
  intro i hi
  simp [hi]
/-- number n of the table -/
def nib (f : Nat → Int32) (n : Nat) : Nat := (f (n / 8)).toBitVec.toNat / 2 ^ (4 * (n % 8)) % 16
def nset (f : Nat → Int32) (n c : Nat) : Nat → Int32 := fun j => if j = n / 8 then nI ((((f (n / 8)).toBitVec.toNat) &&& ((15 * 2 ^ (4 * (n % 8))) ^^^ 4294967295)) ||| (c * 2 ^ (4 * (n % 8)))) else f j
theorem nib_set {f : Nat → Int32} {n c m : Nat} (hc : c < 16) : nib (nset f n c) m = if m = n then c else nib f m := by
  unfold nib nset
  by_cases e : m / 8 = n / 8
  · rw [if_pos e]
    have hW := (f (n / 8)).toBitVec.isLt
    rw [e]
    generalize (f (n / 8)).toBitVec.toNat = W at *
    have hj : n % 8 < 8 := Nat.mod_lt _ (by decide)
    have hm : m % 8 < 8 := Nat.mod_lt _ (by decide)
    have emn : m = n ↔ m % 8 = n % 8 := by omega
    have hp : 2 ^ (4 * (n % 8)) ≤ 268435456 := Nat.le_trans (Nat.pow_le_pow_right (by decide) (show 4 * (n % 8) ≤ 28 by omega)) (by decide)
    have hcp : c * 2 ^ (4 * (n % 8)) ≤ 15 * 268435456 := Nat.mul_le_mul (by omega) hp
    have hlt : ((W &&& ((15 * 2 ^ (4 * (n % 8))) ^^^ 4294967295)) ||| (c * 2 ^ (4 * (n % 8)))) < 2 ^ 32 := Nat.or_lt_two_pow (Nat.and_lt_two_pow _ (Nat.xor_lt_two_pow (by have : 15 * 2 ^ (4 * (n % 8)) ≤ 15 * 268435456 := Nat.mul_le_mul_left _ hp; omega) (by decide))) (by omega)
    have e2 : (nI ((W &&& ((15 * 2 ^ (4 * (n % 8))) ^^^ 4294967295)) ||| (c * 2 ^ (4 * (n % 8))))).toBitVec.toNat = ((W &&& ((15 * 2 ^ (4 * (n % 8))) ^^^ 4294967295)) ||| (c * 2 ^ (4 * (n % 8)))) := Nat.mod_eq_of_lt hlt
    rw [e2]
    apply Nat.eq_of_testBit_eq
    intro i
    have c15 : ∀ i, Nat.testBit 15 i = decide (i < 4) := fun i => by rw [show 15 = 2 ^ 4 - 1 by decide, Nat.testBit_two_pow_sub_one]
    have c32 : ∀ i, Nat.testBit 4294967295 i = decide (i < 32) := fun i => by rw [show 4294967295 = 2 ^ 32 - 1 by decide, Nat.testBit_two_pow_sub_one]
    have hW32 : ∀ i, 32 ≤ i → W.testBit i = false := fun i hi => Nat.testBit_lt_two_pow (Nat.lt_of_lt_of_le hW (Nat.pow_le_pow_right (by decide) hi))
    have hc4 : ∀ i, 4 ≤ i → c.testBit i = false := fun i hi => Nat.testBit_lt_two_pow (Nat.lt_of_lt_of_le hc (show 2 ^ 4 ≤ 2 ^ i from Nat.pow_le_pow_right (by decide) hi))
    rw [show (16 : Nat) = 2 ^ 4 by decide, Nat.testBit_mod_two_pow, Nat.testBit_div_two_pow, Nat.testBit_or, Nat.testBit_and, Nat.testBit_xor, Nat.testBit_mul_two_pow, Nat.testBit_mul_two_pow, c15, c32]
    by_cases hi : i < 4
    · by_cases g : m % 8 = n % 8
      · rw [if_pos (emn.mpr g), g, show i + 4 * (n % 8) - 4 * (n % 8) = i by omega]
        simp [hi]
        omega
      · rw [if_neg (fun q => g (emn.mp q)), Nat.testBit_mod_two_pow, Nat.testBit_div_two_pow]
        by_cases g2 : m % 8 < n % 8
        · simp [hi, show ¬ 4 * (n % 8) ≤ i + 4 * (m % 8) by omega, show i + 4 * (m % 8) < 32 by omega]
        · have h4 : 4 ≤ i + 4 * (m % 8) - 4 * (n % 8) := by omega
          simp [hi, show ¬ i + 4 * (m % 8) - 4 * (n % 8) < 4 by omega, show i + 4 * (m % 8) < 32 by omega, hc4 _ h4]
    · by_cases g : m = n
      · rw [if_pos g, hc4 i (by omega)]
        simp [hi]
      · rw [if_neg g, Nat.testBit_mod_two_pow]
        simp [hi]
  · rw [if_neg e, if_neg (fun q => e (by rw [q]))]
theorem div8 {n : Nat} (h : n < 2 ^ 31) : nI n / (8 : Int32) = nI (n / 8) := pk_div (d := 8) h (by decide) (by decide)
theorem rem8 {n : Nat} (h : n < 2 ^ 31) : nI n - nI n / (8 : Int32) * (8 : Int32) = nI (n % 8) := pk_rem (d := 8) h (by decide) (by decide)
theorem tix {a s : Nat} : ((2048 : Int32) * nI a) + nI s = nI (2048 * a + s) := by rw [show (2048 : Int32) = nI 2048 from rfl, pk_mul, nI_add]
theorem layFew_m {a s c : Nat} {τ : Sg} {Q : Sg → Prop} (ha : a < 13) (hs : s < 2048) (hc : c < 16) (hQ : Q (sIr τ 81 (nset (τ.1 81) (2048 * a + s) c))) : w_X12_layFew (nI a) (nI s) (nI c) τ Q := by
  unfold w_X12_layFew
  have hv := vp_nI (show (2048 * a + s) / 8 < 3328 by omega) (show 3328 < 1000000 by decide)
  have e8 : s % 8 = (2048 * a + s) % 8 := by omega
  rw [tix, rem8 (by omega), bd_eq, bd_eq, bd_eq, div8 (by omega), show (4 : Int32) = nI 4 from rfl, pk_mul, cl_nI (by omega)]
  refine ⟨hv, hv, ?_⟩
  have hp : 2 ^ (4 * (s % 8)) ≤ 268435456 := Nat.le_trans (Nat.pow_le_pow_right (by decide) (show 4 * (s % 8) ≤ 28 by omega)) (by decide)
  have hcp : c * 2 ^ (4 * (s % 8)) ≤ 15 * 268435456 := Nat.mul_le_mul (by omega) hp
  rw [show (15 : Int32) = nI 15 from rfl, n_sh (by omega) (by have : 15 * 2 ^ (4 * (s % 8)) ≤ 15 * 268435456 := Nat.mul_le_mul_left _ hp; omega), n_sh (by omega) (by omega), nI_xor1]
  have ew := nI_of_tn (τ.1 81 ((2048 * a + s) / 8))
  generalize hw : (τ.1 81 ((2048 * a + s) / 8)).toBitVec.toNat = W at ew
  rw [ew, nI_and, nI_or]
  have : sIr τ 81 (nset (τ.1 81) (2048 * a + s) c) = sI τ 81 ((2048 * a + s) / 8) (nI ((W &&& ((15 * 2 ^ (4 * (s % 8))) ^^^ 4294967295)) ||| (c * 2 ^ (4 * (s % 8))))) := by
    rw [e8, ← hw]
    rfl
  rw [← this]
  exact hQ
theorem sm_u : ∀ n, n < 32 → (((nI n).toUInt32 &&& Int32.toUInt32 31).toBitVec % 32).toNat = n := by decide +kernel
theorem fewAt_m {a s : Nat} {τ : Sg} {Q : Int32 → Sg → Prop} (ha : a < 13) (hs : s < 2048) (hQ : Q (nI (nib (τ.1 81) (2048 * a + s))) τ) : w_X12_fewAt (nI a) (nI s) τ Q := by
  unfold w_X12_fewAt
  have hv := vp_nI (show (2048 * a + s) / 8 < 3328 by omega) (show 3328 < 1000000 by decide)
  have e8 : s % 8 = (2048 * a + s) % 8 := by omega
  rw [tix, rem8 (by omega), div8 (by omega), show (4 : Int32) = nI 4 from rfl, pk_mul, cl_nI (by omega)]
  refine ⟨hv, ?_⟩
  have h1 := nI_of_tn (((τ.1 81 ((2048 * a + s) / 8)).toUInt32 >>> ((nI (4 * (s % 8))).toUInt32 &&& Int32.toUInt32 31)).toInt32)
  have hk := sm_u (4 * (s % 8)) (by omega)
  rw [pk_ushr _ _ _ hk] at h1
  have hW := (τ.1 81 ((2048 * a + s) / 8)).toBitVec.isLt
  have h2 : (τ.1 81 ((2048 * a + s) / 8)).toBitVec.toNat / 2 ^ (4 * (s % 8)) ≤ (τ.1 81 ((2048 * a + s) / 8)).toBitVec.toNat := Nat.div_le_self _ _
  rw [h1, show (15 : Int32) = nI 15 from rfl, nI_and, show (15 : Nat) = 2 ^ 4 - 1 by decide, Nat.and_two_pow_sub_one_eq_mod, e8]
  exact hQ
