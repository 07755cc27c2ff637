/-! the numbers of mend(), by what and which -/
def wrX (σ : Sg) (w a : Nat) (v : Int32) : Sg := match w with
  | 0 => sI σ 2 a v
  | 1 => sI σ 3 a v
  | 2 => sI σ 4 a v
  | 3 => sI σ 5 a v
  | 4 => sI σ 6 a v
  | 5 => sI σ 7 a v
  | 6 => sI σ 1 8 v
  | 7 => sI σ 1 9 v
  | _ => sI σ 1 10 v
def wrM (σ : Sg) (w a : Nat) (v : Int32) : Sg := match w with
  | 0 => sI σ 61 a v
  | 1 => sI σ 62 a v
  | 2 => sI σ 63 a v
  | 3 => sI σ 64 a v
  | 4 => sI σ 65 a v
  | 5 => sI σ 66 a v
  | 6 => sI σ 67 0 v
  | 7 => sI σ 67 1 v
  | _ => sI σ 67 2 v
def rvX (σ : Sg) (w a : Nat) : Int32 := match w with
  | 0 => σ.1 2 a
  | 1 => σ.1 3 a
  | 2 => σ.1 4 a
  | 3 => σ.1 5 a
  | 4 => σ.1 6 a
  | 5 => σ.1 7 a
  | 6 => σ.1 1 8
  | 7 => σ.1 1 9
  | _ => σ.1 1 10
def okW (nC nP w a : Nat) : Prop := (w ≤ 3 ∧ a < nC) ∨ (4 ≤ w ∧ w ≤ 5 ∧ a < nP) ∨ (6 ≤ w ∧ w ≤ 8 ∧ a = 0)
def okV (w : Nat) (v : Int32) : Prop := match w with
  | 0 => inR v 0 255
  | 1 => inR v 0 7
  | 2 => inR v 1 4
  | 3 => inR v 0 9
  | 4 => inR v 0 255
  | 5 => inR v 0 9
  | 6 => inR v 0 5
  | 7 => inR v (-3) 3
  | _ => inR v 0 99
theorem w9 {nC nP w a : Nat} (h : okW nC nP w a) : w ≤ 8 := by rcases h with h | h | h <;> omega
theorem cas9 {w : Nat} (h : w ≤ 8) : w = 0 ∨ w = 1 ∨ w = 2 ∨ w = 3 ∨ w = 4 ∨ w = 5 ∨ w = 6 ∨ w = 7 ∨ w = 8 := by omega
theorem lit9 : nI 0 = 0 ∧ nI 1 = 1 ∧ nI 2 = 2 ∧ nI 3 = 3 ∧ nI 4 = 4 ∧ nI 5 = 5 ∧ nI 6 = 6 ∧ nI 7 = 7 ∧ nI 8 = 8 := by decide
theorem nI_inj {a b : Nat} (ha : a < 1000000) (hb : b < 1000000) (h : nI a = nI b) : a = b := (nI_eq (by omega) (by omega)).mp h
theorem toInt_nat {x : Int32} {n : Nat} (h : x.toInt = n) (hn : n < 1000000) : x = nI n := Int32.toInt_inj.mp (by rw [h, nI_toInt (by omega)])
theorem okCh_get {nC nP : Nat} {at_ of_ v : Int32} (h : okCh nC nP at_ of_ v) (hC : nC ≤ 6) (hP : nP ≤ 8) : ∃ w a, of_ = nI w ∧ at_ = nI a ∧ okW nC nP w a ∧ okV w v := by
  obtain ⟨h1, h2⟩ := h
  have key : ∃ a : Nat, at_ = nI a ∧ (inR of_ 0 3 ∧ a < nC ∨ inR of_ 4 5 ∧ a < nP ∨ inR of_ 6 8 ∧ a = 0) := by
    rcases h1 with ⟨p, q, r⟩ | ⟨p, q, r⟩ | ⟨p, q⟩
    · exact ⟨at_.toInt.toNat, toInt_nat (by omega) (by omega), Or.inl ⟨p, by omega⟩⟩
    · exact ⟨at_.toInt.toNat, toInt_nat (by omega) (by omega), Or.inr (Or.inl ⟨p, by omega⟩)⟩
    · exact ⟨0, q.trans (by decide), Or.inr (Or.inr ⟨p, rfl⟩)⟩
  obtain ⟨a, ea, h1⟩ := key
  have tt : ∀ n : Nat, n ≤ 8 → (nI n).toInt = n := fun n hn => nI_toInt (by omega)
  rcases h2 with ⟨e, h2⟩ | ⟨e, h2⟩ | ⟨e, h2⟩ | ⟨e, h2⟩ | ⟨e, h2⟩ | ⟨e, h2⟩ | ⟨e, h2⟩ | ⟨e, h2⟩ | ⟨e, h2⟩
  · refine ⟨0, a, e, ea, ?_, h2⟩
    subst e
    rcases h1 with ⟨p, q⟩ | ⟨p, q⟩ | ⟨p, q⟩
    · exact Or.inl ⟨by omega, q⟩
    · exact absurd p.1 (by decide)
    · exact absurd p.1 (by decide)
  · refine ⟨1, a, e, ea, ?_, h2⟩
    subst e
    rcases h1 with ⟨p, q⟩ | ⟨p, q⟩ | ⟨p, q⟩
    · exact Or.inl ⟨by omega, q⟩
    · exact absurd p.1 (by decide)
    · exact absurd p.1 (by decide)
  · refine ⟨2, a, e, ea, ?_, h2⟩
    subst e
    rcases h1 with ⟨p, q⟩ | ⟨p, q⟩ | ⟨p, q⟩
    · exact Or.inl ⟨by omega, q⟩
    · exact absurd p.1 (by decide)
    · exact absurd p.1 (by decide)
  · refine ⟨3, a, e, ea, ?_, h2⟩
    subst e
    rcases h1 with ⟨p, q⟩ | ⟨p, q⟩ | ⟨p, q⟩
    · exact Or.inl ⟨by omega, q⟩
    · exact absurd p.1 (by decide)
    · exact absurd p.1 (by decide)
  · refine ⟨4, a, e, ea, ?_, h2⟩
    subst e
    rcases h1 with ⟨p, q⟩ | ⟨p, q⟩ | ⟨p, q⟩
    · exact absurd p.2 (by decide)
    · exact Or.inr (Or.inl ⟨by omega, by omega, q⟩)
    · exact absurd p.1 (by decide)
  · refine ⟨5, a, e, ea, ?_, h2⟩
    subst e
    rcases h1 with ⟨p, q⟩ | ⟨p, q⟩ | ⟨p, q⟩
    · exact absurd p.2 (by decide)
    · exact Or.inr (Or.inl ⟨by omega, by omega, q⟩)
    · exact absurd p.1 (by decide)
  · refine ⟨6, a, e, ea, ?_, h2⟩
    subst e
    rcases h1 with ⟨p, q⟩ | ⟨p, q⟩ | ⟨p, q⟩
    · exact absurd p.2 (by decide)
    · exact absurd p.2 (by decide)
    · exact Or.inr (Or.inr ⟨by omega, by omega, q⟩)
  · refine ⟨7, a, e, ea, ?_, h2⟩
    subst e
    rcases h1 with ⟨p, q⟩ | ⟨p, q⟩ | ⟨p, q⟩
    · exact absurd p.2 (by decide)
    · exact absurd p.2 (by decide)
    · exact Or.inr (Or.inr ⟨by omega, by omega, q⟩)
  · refine ⟨8, a, e, ea, ?_, h2⟩
    subst e
    rcases h1 with ⟨p, q⟩ | ⟨p, q⟩ | ⟨p, q⟩
    · exact absurd p.2 (by decide)
    · exact absurd p.2 (by decide)
    · exact Or.inr (Or.inr ⟨by omega, by omega, q⟩)
theorem okW_a {nC nP w a : Nat} (h : okW nC nP w a) (hC : nC ≤ 6) (hP : nP ≤ 8) : (w ≤ 3 → a < 6) ∧ (4 ≤ w → w ≤ 5 → a < 8) ∧ (6 ≤ w → a = 0) := by
  rcases h with h | h | h <;> omega
theorem write_x {nC nP w a : Nat} (h : okW nC nP w a) (hC : nC ≤ 6) (hP : nP ≤ 8) {v : Int32} {σ : Sg} {Q : Sg → Prop} (hq : Q (wrX σ w a v)) : w_X7_write (nI a) (nI w) v σ Q := by
  obtain ⟨h1, h2, h3⟩ := okW_a h hC hP
  unfold w_X7_write
  rcases cas9 (w9 h) with rfl | rfl | rfl | rfl | rfl | rfl | rfl | rfl | rfl
  all_goals simp only [lit9.1, lit9.2.1, lit9.2.2.1, lit9.2.2.2.1, lit9.2.2.2.2.1, lit9.2.2.2.2.2.1, lit9.2.2.2.2.2.2.1, lit9.2.2.2.2.2.2.2.1, lit9.2.2.2.2.2.2.2.2, bd_eq, show ¬ ((1 : Int32) = 0) by decide, show ¬ ((2 : Int32) = 0) by decide, show ¬ ((2 : Int32) = 1) by decide, show ¬ ((3 : Int32) = 0) by decide, show ¬ ((3 : Int32) = 1) by decide, show ¬ ((3 : Int32) = 2) by decide, show ¬ ((4 : Int32) = 0) by decide, show ¬ ((4 : Int32) = 1) by decide, show ¬ ((4 : Int32) = 2) by decide, show ¬ ((4 : Int32) = 3) by decide, show ¬ ((5 : Int32) = 0) by decide, show ¬ ((5 : Int32) = 1) by decide, show ¬ ((5 : Int32) = 2) by decide, show ¬ ((5 : Int32) = 3) by decide, show ¬ ((5 : Int32) = 4) by decide, show ¬ ((6 : Int32) = 0) by decide, show ¬ ((6 : Int32) = 1) by decide, show ¬ ((6 : Int32) = 2) by decide, show ¬ ((6 : Int32) = 3) by decide, show ¬ ((6 : Int32) = 4) by decide, show ¬ ((6 : Int32) = 5) by decide, show ¬ ((7 : Int32) = 0) by decide, show ¬ ((7 : Int32) = 1) by decide, show ¬ ((7 : Int32) = 2) by decide, show ¬ ((7 : Int32) = 3) by decide, show ¬ ((7 : Int32) = 4) by decide, show ¬ ((7 : Int32) = 5) by decide, show ¬ ((7 : Int32) = 6) by decide, show ¬ ((8 : Int32) = 0) by decide, show ¬ ((8 : Int32) = 1) by decide, show ¬ ((8 : Int32) = 2) by decide, show ¬ ((8 : Int32) = 3) by decide, show ¬ ((8 : Int32) = 4) by decide, show ¬ ((8 : Int32) = 5) by decide, show ¬ ((8 : Int32) = 6) by decide, show ¬ ((8 : Int32) = 7) by decide, if_true, if_false]
  · have := h1 (by omega); exact ⟨vp_nI this (by decide), by rw [cl_nI (by omega)]; exact hq⟩
  · have := h1 (by omega); exact ⟨vp_nI this (by decide), by rw [cl_nI (by omega)]; exact hq⟩
  · have := h1 (by omega); exact ⟨vp_nI this (by decide), by rw [cl_nI (by omega)]; exact hq⟩
  · have := h1 (by omega); exact ⟨vp_nI this (by decide), by rw [cl_nI (by omega)]; exact hq⟩
  · have := h2 (by omega) (by omega); exact ⟨vp_nI this (by decide), by rw [cl_nI (by omega)]; exact hq⟩
  · have := h2 (by omega) (by omega); exact ⟨vp_nI this (by decide), by rw [cl_nI (by omega)]; exact hq⟩
  · exact hq
  · exact hq
  · exact hq
