/-! LAYER 2: what holds between the class (cells 0 to 59) and the reference (60 to 94) -/
theorem rd_eq {σ : Sg} {c k : Nat} {v : Int32} : (sI σ c k v).1 c k = v := by simp [sI]
theorem rd_ne {σ : Sg} {c c' k : Nat} {v : Int32} (h : c' ≠ c) : (sI σ c k v).1 c' = σ.1 c' := by simp [sI, h]
theorem rd_in {σ : Sg} {c k j : Nat} {v : Int32} : (sI σ c k v).1 c j = if j = k then v else σ.1 c j := by simp [sI]
theorem rd_fn {σ : Sg} {c k : Nat} {v : Int32} : (sI σ c k v).1 c = fun j => if j = k then v else σ.1 c j := by simp [sI]
theorem rd_2 {σ : Sg} {c k : Nat} {v : Int32} : (sI σ c k v).2 = σ.2 := rfl
theorem rdr_eq {σ : Sg} {c : Nat} {f : Nat → Int32} : (sIr σ c f).1 c = f := by simp [sIr]
theorem rdr_ne {σ : Sg} {c c' : Nat} {f : Nat → Int32} (h : c' ≠ c) : (sIr σ c f).1 c' = σ.1 c' := by simp [sIr, h]
theorem rdr_2 {σ : Sg} {c : Nat} {f : Nat → Int32} : (sIr σ c f).2 = σ.2 := rfl
theorem rj_1 {σ : Sg} {c k : Nat} {v : Int64} : (sJ σ c k v).1 = σ.1 := rfl
theorem rj_ne {σ : Sg} {c c' k : Nat} {v : Int64} (h : c' ≠ c) : (sJ σ c k v).2 c' = σ.2 c' := by simp [sJ, h]
theorem rj_in {σ : Sg} {c k j : Nat} {v : Int64} : (sJ σ c k v).2 c j = if j = k then v else σ.2 c j := by simp [sJ]
theorem rj_fn {σ : Sg} {c k : Nat} {v : Int64} : (sJ σ c k v).2 c = fun j => if j = k then v else σ.2 c j := by simp [sJ]
theorem rjr_1 {σ : Sg} {c : Nat} {f : Nat → Int64} : (sJr σ c f).1 = σ.1 := rfl
theorem rjr_eq {σ : Sg} {c : Nat} {f : Nat → Int64} : (sJr σ c f).2 c = f := by simp [sJr]
theorem rjr_ne {σ : Sg} {c c' : Nat} {f : Nat → Int64} (h : c' ≠ c) : (sJr σ c f).2 c' = σ.2 c' := by simp [sJr, h]
/-- a number between two -/
def inR (v : Int32) (a b : Int) : Prop := a ≤ v.toInt ∧ v.toInt ≤ b
theorem inR_vp {v : Int32} {b : Int} {n : Nat} (h : inR v 0 b) (hb : b < n) : vp_in v n := by
  intro q
  rcases q with q | q
  · rw [Int32.lt_iff_toInt_lt, Int32.toInt_zero] at q
    have := h.1
    omega
  · have e : v.toNatClampNeg = v.toInt.toNat := rfl
    rw [e] at q
    have h1 := h.1
    have h2 := h.2
    omega
/-- the class's and the reference's carriages, places, numbers -/
def IA (σ : Sg) : Prop :=
  (σ.1 61 = σ.1 2 ∧ σ.1 62 = σ.1 3 ∧ σ.1 63 = σ.1 4 ∧ σ.1 64 = σ.1 5 ∧ σ.1 65 = σ.1 6 ∧ σ.1 66 = σ.1 7) ∧
  (σ.1 60 1 = σ.1 1 4 ∧ σ.1 60 6 = σ.1 1 7 ∧ σ.1 67 0 = σ.1 1 8 ∧ σ.1 67 1 = σ.1 1 9 ∧ σ.1 67 2 = σ.1 1 10) ∧
  (∃ nC nP : Nat, (nC ≤ 6 ∧ σ.1 1 4 = nI nC) ∧ (nP ≤ 8 ∧ σ.1 1 7 = nI nP) ∧
    (∀ k, k < nC → inR (σ.1 2 k) 0 255 ∧ inR (σ.1 3 k) 0 7 ∧ inR (σ.1 4 k) 1 4 ∧ inR (σ.1 5 k) 0 9) ∧
    ∀ q, q < nP → inR (σ.1 6 q) 0 255 ∧ inR (σ.1 7 q) 0 9) ∧
  inR (σ.1 1 8) 0 5 ∧ inR (σ.1 1 9) (-3) 3 ∧ inR (σ.1 1 10) 0 99
/-- the tape -/
def IT (σ : Sg) : Prop := ∃ n : Nat, n ≤ 120 ∧ σ.1 0 4 = nI n ∧ σ.1 60 17 = nI n ∧ ∀ j, j < n → inR (σ.1 14 j) 0 255 ∧ σ.1 72 j = vp_nar .byte (σ.1 14 j)
/-- changes -/
def okCh (nC nP : Nat) (at_ of_ v : Int32) : Prop :=
  (inR of_ 0 3 ∧ 0 ≤ at_.toInt ∧ at_.toInt < nC ∨ inR of_ 4 5 ∧ 0 ≤ at_.toInt ∧ at_.toInt < nP ∨ inR of_ 6 8 ∧ at_ = 0) ∧
  (of_ = 0 ∧ inR v 0 255 ∨ of_ = 1 ∧ inR v 0 7 ∨ of_ = 2 ∧ inR v 1 4 ∨ of_ = 3 ∧ inR v 0 9 ∨ of_ = 4 ∧ inR v 0 255 ∨ of_ = 5 ∧ inR v 0 9 ∨ of_ = 6 ∧ inR v 0 5 ∨ of_ = 7 ∧ inR v (-3) 3 ∨ of_ = 8 ∧ inR v 0 99)
def IC (σ : Sg) : Prop := ∃ nC nP u k : Nat, σ.1 1 4 = nI nC ∧ nC ≤ 6 ∧ σ.1 1 7 = nI nP ∧ nP ≤ 8 ∧ u ≤ k ∧ k ≤ 40 ∧ σ.1 36 2 = nI u ∧ σ.1 36 3 = nI k ∧ σ.1 60 10 = nI u ∧ σ.1 60 11 = nI (k - u) ∧
  ∀ i, i < k → σ.1 69 i = σ.1 37 (4 * i) ∧ σ.1 68 i = σ.1 37 (4 * i + 1) ∧ σ.1 70 i = σ.1 37 (4 * i + 2) ∧ σ.1 71 i = σ.1 37 (4 * i + 3) ∧
    okCh nC nP (σ.1 37 (4 * i)) (σ.1 37 (4 * i + 1)) (σ.1 37 (4 * i + 2)) ∧ okCh nC nP (σ.1 37 (4 * i)) (σ.1 37 (4 * i + 1)) (σ.1 37 (4 * i + 3))
/-- what was led, and the image -/
def II (σ : Sg) : Prop := σ.1 84 = σ.1 39 ∧ ((σ.1 38 3 = -2 ∧ σ.1 60 40 = 0) ∨
  (σ.1 60 40 = 1 ∧ ∃ nC n : Nat, σ.1 1 4 = nI nC ∧ nC ≤ 6 ∧ n ≤ nC ∧ σ.1 38 3 = nI n ∧ σ.1 60 41 = nI n ∧ σ.1 60 42 = σ.1 38 4 ∧ inR (σ.1 38 4) 0 99 ∧
    (∀ k, k < n → σ.1 85 k = σ.1 40 k ∧ σ.1 86 k = σ.1 41 k ∧ σ.1 87 k = σ.1 42 k ∧ inR (σ.1 40 k) 0 255 ∧ inR (σ.1 41 k) 0 7 ∧ inR (σ.1 42 k) 0 9) ∧
    ∀ k, k < 5 → σ.1 88 k = σ.1 43 k))
/-- bodies -/
def IB (σ : Sg) : Prop := σ.1 89 = σ.1 58 ∧ σ.1 90 = σ.1 59 ∧ ∃ b r : Nat, b ≤ 50 ∧ r ≤ 1000 ∧ σ.1 57 1 = nI b ∧ σ.1 60 47 = nI b ∧ σ.1 57 3 = nI r ∧ σ.1 60 49 = nI r ∧ ∀ i, i < b → inR (σ.1 58 i) 0 7
/-- shelves -/
def okSh (b : Nat) (hold sort body len size : Int32) : Prop :=
  (hold = -1 ∧ sort = -2) ∨ (sort = -1 ∧ hold = body ∧ 0 ≤ body.toInt ∧ body.toInt < b) ∨ (inR sort 0 4 ∧ hold = -2 - sort ∧ len = size ∧ inR len 0 60)
def IS (σ : Sg) : Prop := ∃ b : Nat, b ≤ 50 ∧ σ.1 57 1 = nI b ∧ ∀ s, s < 6 → okSh b (σ.1 91 s) (σ.1 (45 + 2 * s) 0) (σ.1 (45 + 2 * s) 1) (σ.1 (45 + 2 * s) 2) (σ.1 92 s) ∧ ∀ j, j < 60 → σ.2 93 (60 * s + j) = σ.2 (46 + 2 * s) j
/-- what the coaches keep of the law -/
def IK (N : Nat) (σ : Sg) : Prop := ∀ k, k < 6 → σ.1 (16 + 2 * k) 0 = nI k ∧ ∃ s : Nat, s ≤ 16 * N ∧ σ.1 (16 + 2 * k) 5 = nI s ∧ ∀ i, i < 480 → ∃ v : Nat, σ.1 (17 + 2 * k) i = nI v ∧ v / 4 ≤ s
