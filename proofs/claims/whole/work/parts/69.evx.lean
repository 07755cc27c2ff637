/-! a law at work: the class -/
def fcs (w s h d k p : Int32) (i : Nat) : Int32 := if i = 0 then w else if i = 1 then s else if i = 2 then h else if i = 3 then d else if i = 4 then k else p
def evL (f : Nat → Int32) : List (Option TreeZ × TreeZ) → Int32
  | [] => 0
  | (none, a) :: _ => a.2 f
  | (some t, a) :: ls => if t.2 f = 0 then evL f ls else a.2 f
theorem div_m1 (a : Int32) : a / (-1) = -a := by
  apply Int32.toInt_inj.mp
  rw [Int32.toInt_div, show (-1 : Int32).toInt = -1 by decide, Int.tdiv_neg, Int.tdiv_one, Int32.toInt_neg]
theorem mod_m1 (a : Int32) : a - a / (-1) * (-1) = 0 := by
  rw [div_m1, Int32.neg_mul_neg, Int32.mul_one, Int32.sub_self]
theorem ng_lt : ∀ c, c < 256 → 0 < c → ngI c < 0 := by decide +kernel
theorem ng_ng (c : Nat) : -ngI c = nI c := Int32.neg_neg
theorem ng_eq {c k : Nat} (hc : c < 256) (hk : k < 256) {m : Int32} (hm : m = ngI k) : ngI c = m ↔ c = k := by
  rw [hm]
  constructor
  · intro q
    have e : -ngI c = -ngI k := congrArg (fun x => -x) q
    rw [ng_ng, ng_ng] at e
    exact (nI_eq (by omega) (by omega)).mp e
  · intro q
    rw [q]
def EX (τ τ' : Sg) : Prop := (∀ c, c ≠ 10 → τ'.1 c = τ.1 c) ∧ τ'.2 = τ.2
theorem EX.refl (τ : Sg) : EX τ τ := ⟨fun _ _ => rfl, rfl⟩
theorem EX.trans {a b c : Sg} (h1 : EX a b) (h2 : EX b c) : EX a c := ⟨fun x h => (h2.1 x h).trans (h1.1 x h), h2.2.trans h1.2⟩
theorem EX.set {τ τ' : Sg} {k : Nat} {v : Int32} (h : EX τ τ') : EX τ (sI τ' 10 k v) := ⟨fun x q => by rw [rd_ne q]; exact h.1 x q, h.2⟩
/-- the class's code and what it is told -/
def CX (τ : Sg) (m : Nat) (f : Nat → Int32) : Prop := m ≤ 120 ∧ τ.1 8 1 = nI m ∧ ∀ i, i < 6 → τ.1 8 (3 + i) = f i
theorem CX.c {τ τ' : Sg} {m : Nat} {f : Nat → Int32} (h : CX τ m f) (e : EX τ τ') : CX τ' m f := by
  refine ⟨h.1, ?_, fun i hi => ?_⟩
  · rw [e.1 8 (by decide)]; exact h.2.1
  · rw [e.1 8 (by decide)]; exact h.2.2 i hi
theorem valueAt_x {n : Nat} {σ : Sg} {K : Int32 → Sg → Prop} (h1 : 1 ≤ n) (h2 : n ≤ 120) (hK : K (σ.1 10 (n - 1)) σ) : w_X8_valueAt (nI n) σ K := by
  unfold w_X8_valueAt
  refine within_x (a := 1) (b := 120) (by decide) (by decide) (fun _ => ?_) (fun q => absurd ?_ q)
  · rw [if_neg one_ne, show nI n - (1 : Int32) = nI (n - 1) from nI_sub h1 (by omega), cl_nI (by omega)]
    exact ⟨vp_nI (by omega) (by decide), hK⟩
  · unfold inR
    rw [nI_toInt (by omega)]
    omega
theorem nm_lt {c : Nat} (h : nmI c < 6) : c < 128 := by
  by_cases g : c < 128
  · exact g
  · unfold nmI at h
    rw [if_neg (by omega), if_neg (by omega), if_neg (by omega), if_neg (by omega), if_neg (by omega), if_neg (by omega)] at h
    omega
theorem named_x {c m : Nat} {f : Nat → Int32} {σ : Sg} {K : Int32 → Sg → Prop} (hX : CX σ m f) (hc : nmI c < 6) (hK : K (f (nmI c)) σ) : w_X8_named (nI c) σ K := by
  have h := hX.2.2
  have hc' := (nm_ne hc)
  unfold w_X8_named
  by_cases g100 : c = 100
  · rw [g100] at hK ⊢
    rw [if_pos (show nI 100 = (100 : Int32) from rfl), h 3 (by decide)]
    exact hK
  rw [if_neg (fun q => g100 ((e_lit (m := 100) (k := 100) rfl (by have := nm_lt hc; omega) (by decide)).mp q))]
  by_cases g104 : c = 104
  · rw [g104] at hK ⊢
    rw [if_pos (show nI 104 = (104 : Int32) from rfl), h 2 (by decide)]
    exact hK
  rw [if_neg (fun q => g104 ((e_lit (m := 104) (k := 104) rfl (by have := nm_lt hc; omega) (by decide)).mp q))]
  by_cases g107 : c = 107
  · rw [g107] at hK ⊢
    rw [if_pos (show nI 107 = (107 : Int32) from rfl), h 4 (by decide)]
    exact hK
  rw [if_neg (fun q => g107 ((e_lit (m := 107) (k := 107) rfl (by have := nm_lt hc; omega) (by decide)).mp q))]
  by_cases g115 : c = 115
  · rw [g115] at hK ⊢
    rw [if_pos (show nI 115 = (115 : Int32) from rfl), h 1 (by decide)]
    exact hK
  rw [if_neg (fun q => g115 ((e_lit (m := 115) (k := 115) rfl (by have := nm_lt hc; omega) (by decide)).mp q))]
  by_cases g119 : c = 119
  · rw [g119] at hK ⊢
    rw [if_pos (show nI 119 = (119 : Int32) from rfl), h 0 (by decide)]
    exact hK
  rw [if_neg (fun q => g119 ((e_lit (m := 119) (k := 119) rfl (by have := nm_lt hc; omega) (by decide)).mp q))]
  have g : c = 112 := by
    unfold nmI at hc
    rw [if_neg g100, if_neg g104, if_neg g107] at hc
    by_cases g112 : c = 112
    · exact g112
    · rw [if_neg g112, if_neg g115, if_neg g119] at hc
      omega
  rw [g] at hK
  rw [h 5 (by decide)]
  exact hK
theorem joined_x {c : Nat} {a b : Int32} {σ : Sg} {K : Int32 → Sg → Prop} (hc : c < 256) (hr : 0 < rk c) (hK : K (jnd c a b) σ) : w_X8_joined (nI c) a b σ K := by
  unfold w_X8_joined
  unfold jnd at hK
  by_cases g37 : c = 37
  · rw [if_pos g37] at hK
    rw [if_pos ((e_lit (m := 37) (k := 37) rfl (by omega) (by decide)).mpr g37)]
    by_cases q : b = 0
    · rw [if_pos q] at hK ⊢; exact hK
    · rw [if_neg q] at hK ⊢; exact ⟨q, hK⟩
  rw [if_neg g37] at hK
  rw [if_neg (fun q => g37 ((e_lit (m := 37) (k := 37) rfl (by omega) (by decide)).mp q))]
  by_cases g38 : c = 38
  · rw [if_pos g38] at hK
    rw [if_pos ((e_lit (m := 38) (k := 38) rfl (by omega) (by decide)).mpr g38)]
    by_cases q : a = 0
    · rw [if_pos q] at hK ⊢; exact hK
    · rw [if_neg q] at hK ⊢
      by_cases q2 : b = 0
      · rw [if_pos q2] at hK ⊢; exact hK
      · rw [if_neg q2] at hK ⊢; exact hK
  rw [if_neg g38] at hK
  rw [if_neg (fun q => g38 ((e_lit (m := 38) (k := 38) rfl (by omega) (by decide)).mp q))]
  by_cases g42 : c = 42
  · rw [if_pos g42] at hK
    rw [if_pos ((e_lit (m := 42) (k := 42) rfl (by omega) (by decide)).mpr g42)]
    exact hK
  rw [if_neg g42] at hK
  rw [if_neg (fun q => g42 ((e_lit (m := 42) (k := 42) rfl (by omega) (by decide)).mp q))]
  by_cases g43 : c = 43
  · rw [if_pos g43] at hK
    rw [if_pos ((e_lit (m := 43) (k := 43) rfl (by omega) (by decide)).mpr g43)]
    exact hK
  rw [if_neg g43] at hK
  rw [if_neg (fun q => g43 ((e_lit (m := 43) (k := 43) rfl (by omega) (by decide)).mp q))]
  by_cases g45 : c = 45
  · rw [if_pos g45] at hK
    rw [if_pos ((e_lit (m := 45) (k := 45) rfl (by omega) (by decide)).mpr g45)]
    exact hK
  rw [if_neg g45] at hK
  rw [if_neg (fun q => g45 ((e_lit (m := 45) (k := 45) rfl (by omega) (by decide)).mp q))]
  by_cases g47 : c = 47
  · rw [if_pos g47] at hK
    rw [if_pos ((e_lit (m := 47) (k := 47) rfl (by omega) (by decide)).mpr g47)]
    by_cases q : b = 0
    · rw [if_pos q] at hK ⊢; exact hK
    · rw [if_neg q] at hK ⊢; exact ⟨q, hK⟩
  rw [if_neg g47] at hK
  rw [if_neg (fun q => g47 ((e_lit (m := 47) (k := 47) rfl (by omega) (by decide)).mp q))]
  by_cases g60 : c = 60
  · rw [if_pos g60] at hK
    rw [if_pos ((e_lit (m := 60) (k := 60) rfl (by omega) (by decide)).mpr g60)]
    by_cases q : b ≤ a
    · rw [if_pos q] at hK ⊢; exact hK
    · rw [if_neg q] at hK ⊢; exact hK
  rw [if_neg g60] at hK
  rw [if_neg (fun q => g60 ((e_lit (m := 60) (k := 60) rfl (by omega) (by decide)).mp q))]
  by_cases g61 : c = 61
  · rw [if_pos g61] at hK
    rw [if_pos ((e_lit (m := 61) (k := 61) rfl (by omega) (by decide)).mpr g61)]
    by_cases q : a = b
    · rw [if_pos q] at hK ⊢; exact hK
    · rw [if_neg q] at hK ⊢; exact hK
  rw [if_neg g61] at hK
  rw [if_neg (fun q => g61 ((e_lit (m := 61) (k := 61) rfl (by omega) (by decide)).mp q))]
  by_cases g62 : c = 62
  · rw [if_pos g62] at hK
    rw [if_pos ((e_lit (m := 62) (k := 62) rfl (by omega) (by decide)).mpr g62)]
    by_cases q : a ≤ b
    · rw [if_pos q] at hK ⊢; exact hK
    · rw [if_neg q] at hK ⊢; exact hK
  rw [if_neg g62] at hK
  rw [if_neg (fun q => g62 ((e_lit (m := 62) (k := 62) rfl (by omega) (by decide)).mp q))]
  have g124 : c = 124 := by
    unfold rk at hr
    rw [if_neg g37, if_neg g38, if_neg g42, if_neg g43, if_neg g45, if_neg g47, if_neg g60, if_neg g61, if_neg g62] at hr
    by_cases g : c = 124
    · exact g
    · rw [if_neg g] at hr
      omega
  rw [if_pos ((e_lit (m := 124) (k := 124) rfl (by omega) (by decide)).mpr g124)]
  by_cases q : a = 0
  · rw [if_pos q] at hK ⊢
    by_cases q2 : b = 0
    · rw [if_pos q2] at hK ⊢; exact hK
    · rw [if_neg q2] at hK ⊢; exact hK
  · rw [if_neg q] at hK ⊢; exact hK
theorem twoOf_m {c : Nat} {a b : Int32} {σ : Sg} {K : Int32 → Sg → Prop} (hc : c < 256) (hK : K (jnd c a b) σ) : w_X12_twoOf (nI c) a b σ K := by
  unfold w_X12_twoOf
  unfold jnd at hK
  by_cases g37 : c = 37
  · rw [if_pos g37] at hK
    rw [if_pos ((e_lit (m := 37) (k := 37) rfl (by omega) (by decide)).mpr g37)]
    by_cases q : b = 0
    · rw [if_pos q] at hK ⊢; exact hK
    · rw [if_neg q] at hK ⊢
      by_cases q2 : b = -1
      · rw [if_pos q2]
        rw [q2, mod_m1] at hK
        exact hK
      · rw [if_neg q2]
        exact ⟨q, hK⟩
  rw [if_neg g37] at hK
  rw [if_neg (fun q => g37 ((e_lit (m := 37) (k := 37) rfl (by omega) (by decide)).mp q))]
  by_cases g38 : c = 38
  · rw [if_pos g38] at hK
    rw [if_pos ((e_lit (m := 38) (k := 38) rfl (by omega) (by decide)).mpr g38)]
    by_cases q : a = 0
    · rw [if_pos q] at hK ⊢; exact hK
    · rw [if_neg q] at hK ⊢
      by_cases q2 : b = 0
      · rw [if_pos q2] at hK ⊢; exact hK
      · rw [if_neg q2] at hK ⊢; exact hK
  rw [if_neg g38] at hK
  rw [if_neg (fun q => g38 ((e_lit (m := 38) (k := 38) rfl (by omega) (by decide)).mp q))]
  by_cases g42 : c = 42
  · rw [if_pos g42] at hK
    rw [if_pos ((e_lit (m := 42) (k := 42) rfl (by omega) (by decide)).mpr g42)]
    exact hK
  rw [if_neg g42] at hK
  rw [if_neg (fun q => g42 ((e_lit (m := 42) (k := 42) rfl (by omega) (by decide)).mp q))]
  by_cases g43 : c = 43
  · rw [if_pos g43] at hK
    rw [if_pos ((e_lit (m := 43) (k := 43) rfl (by omega) (by decide)).mpr g43)]
    exact hK
  rw [if_neg g43] at hK
  rw [if_neg (fun q => g43 ((e_lit (m := 43) (k := 43) rfl (by omega) (by decide)).mp q))]
  by_cases g45 : c = 45
  · rw [if_pos g45] at hK
    rw [if_pos ((e_lit (m := 45) (k := 45) rfl (by omega) (by decide)).mpr g45)]
    exact hK
  rw [if_neg g45] at hK
  rw [if_neg (fun q => g45 ((e_lit (m := 45) (k := 45) rfl (by omega) (by decide)).mp q))]
  by_cases g47 : c = 47
  · rw [if_pos g47] at hK
    rw [if_pos ((e_lit (m := 47) (k := 47) rfl (by omega) (by decide)).mpr g47)]
    by_cases q : b = 0
    · rw [if_pos q] at hK ⊢; exact hK
    · rw [if_neg q] at hK ⊢
      by_cases q2 : b = -1
      · rw [if_pos q2]
        rw [q2, div_m1] at hK
        exact hK
      · rw [if_neg q2]
        exact ⟨q, hK⟩
  rw [if_neg g47] at hK
  rw [if_neg (fun q => g47 ((e_lit (m := 47) (k := 47) rfl (by omega) (by decide)).mp q))]
  by_cases g60 : c = 60
  · rw [if_pos g60] at hK
    rw [if_pos ((e_lit (m := 60) (k := 60) rfl (by omega) (by decide)).mpr g60)]
    by_cases q : b ≤ a
    · rw [if_pos q] at hK ⊢; exact hK
    · rw [if_neg q] at hK ⊢; exact hK
  rw [if_neg g60] at hK
  rw [if_neg (fun q => g60 ((e_lit (m := 60) (k := 60) rfl (by omega) (by decide)).mp q))]
  by_cases g61 : c = 61
  · rw [if_pos g61] at hK
    rw [if_pos ((e_lit (m := 61) (k := 61) rfl (by omega) (by decide)).mpr g61)]
    by_cases q : a = b
    · rw [if_pos q] at hK ⊢; exact hK
    · rw [if_neg q] at hK ⊢; exact hK
  rw [if_neg g61] at hK
  rw [if_neg (fun q => g61 ((e_lit (m := 61) (k := 61) rfl (by omega) (by decide)).mp q))]
  by_cases g62 : c = 62
  · rw [if_pos g62] at hK
    rw [if_pos ((e_lit (m := 62) (k := 62) rfl (by omega) (by decide)).mpr g62)]
    by_cases q : a ≤ b
    · rw [if_pos q] at hK ⊢; exact hK
    · rw [if_neg q] at hK ⊢; exact hK
  rw [if_neg g62] at hK
  rw [if_neg (fun q => g62 ((e_lit (m := 62) (k := 62) rfl (by omega) (by decide)).mp q))]
  by_cases q : a = 0
  · rw [if_pos q] at hK ⊢
    by_cases q2 : b = 0
    · rw [if_pos q2] at hK ⊢; exact hK
    · rw [if_neg q2] at hK ⊢; exact hK
  · rw [if_neg q] at hK ⊢; exact hK
theorem work_n {v top : Nat} {τ : Sg} {K : Int32 → Sg → Prop} (hv : v < 100000) (ht : top < 120) (hK : K (nI (top + 1)) (sI τ 10 top (nI v))) : w_X8_work (nI v) (nI top) τ K := by
  unfold w_X8_work
  simp only [bd_eq]
  rw [if_pos (nI_pos' (by omega)), if_neg (fun q => by have := (ge_lit (m := 120) (k := 120) rfl (by omega) (by decide)).mp q; omega), if_neg (nI_pos (by omega)), cl_nI (by omega), nI_1]
  exact ⟨vp_nI ht (by decide), hK⟩
theorem work_a {c top m : Nat} {f : Nat → Int32} {τ : Sg} {K : Int32 → Sg → Prop} (hX : CX τ m f) (hc : nmI c < 6) (ht : top < 120) (hK : K (nI (top + 1)) (sI τ 10 top (f (nmI c)))) : w_X8_work (ngI c) (nI top) τ K := by
  have hl := nm_lt hc
  have h0 := nm_pos hc
  have hn := ng_lt c (by omega) h0
  unfold w_X8_work
  simp only [bd_eq]
  rw [if_neg (fun q => by have := i32_lt.mp hn; have := i32_le.mp q; omega), ng_ng]
  refine isName_x (by omega) (fun _ => ?_) (fun q => absurd hc q)
  rw [if_neg one_ne, if_neg (fun q => by have := (ge_lit (m := 120) (k := 120) rfl (by omega) (by decide)).mp q; omega), if_pos hn]
  refine named_x hX hc ?_
  rw [cl_nI (by omega), nI_1]
  exact ⟨vp_nI ht (by decide), hK⟩
theorem work_u {c top : Nat} {τ : Sg} {K : Int32 → Sg → Prop} (hc : c = 33 ∨ c = 95) (h1 : 1 ≤ top) (ht : top ≤ 120) (hK : K (nI top) (sI τ 10 (top - 1) (unv c (τ.1 10 (top - 1))))) : w_X8_work (ngI c) (nI top) τ K := by
  have hn := ng_lt c (by omega) (by omega)
  unfold w_X8_work
  simp only [bd_eq]
  have e1 : nI top - (1 : Int32) = nI (top - 1) := nI_sub h1 (by omega)
  rw [if_neg (fun q => by have := i32_lt.mp hn; have := i32_le.mp q; omega), ng_ng]
  refine isName_x (by omega) (fun q => absurd q (by rcases hc with rfl | rfl <;> decide)) (fun _ => ?_)
  rw [if_pos rfl, e1, cl_nI (by omega)]
  have hv : vp_in (nI (top - 1)) 120 := vp_nI (by omega) (by decide)
  have hw : ∀ {P : Int32 → Sg → Prop}, P 1 τ → w_X11_within (nI top) (1 : Int32) (120 : Int32) τ P := fun {P} hP => within_x (a := 1) (b := 120) (by decide) (by decide) (fun _ => hP) (fun q => absurd (by unfold inR; rw [nI_toInt (by omega)]; omega) q)
  rcases hc with rfl | rfl
  · rw [if_neg (fun q => by have := (ng_eq (c := 33) (k := 95) (m := -95) (by decide) (by decide) rfl).mp q; omega), if_pos (show ngI 33 = (-33 : Int32) from rfl)]
    refine hw ?_
    rw [if_neg one_ne, if_neg (fun q => by have := (ng_eq (c := 33) (k := 95) (m := -95) (by decide) (by decide) rfl).mp q; omega)]
    have eu : unv 33 (τ.1 10 (top - 1)) = if τ.1 10 (top - 1) = 0 then 1 else 0 := rfl
    rw [eu] at hK
    by_cases q : τ.1 10 (top - 1) = 0
    · rw [if_pos q] at hK ⊢
      exact ⟨hv, hv, hK⟩
    · rw [if_neg q] at hK ⊢
      exact ⟨hv, hv, hK⟩
  · rw [if_pos (show ngI 95 = (-95 : Int32) from rfl)]
    refine hw ?_
    rw [if_neg one_ne, if_pos (show ngI 95 = (-95 : Int32) from rfl)]
    exact ⟨hv, hv, hK⟩
theorem rk_nm {c : Nat} (h : 0 < rk c) : ¬ nmI c < 6 := by
  intro q
  unfold rk at h
  unfold nmI at q
  repeat' (split at q)
  all_goals first | omega | (subst_vars; exact absurd h (by decide))
theorem work_b {c top : Nat} {τ : Sg} {K : Int32 → Sg → Prop} (hc : 0 < rk c) (h1 : 2 ≤ top) (ht : top ≤ 120) (hK : K (nI (top - 1)) (sI τ 10 (top - 2) (jnd c (τ.1 10 (top - 2)) (τ.1 10 (top - 1))))) : w_X8_work (ngI c) (nI top) τ K := by
  have h128 := rk_128 hc
  have hne := rk_ne hc
  have hn := ng_lt c (by omega) (rk_pos hc)
  unfold w_X8_work
  simp only [bd_eq]
  have e1 : nI top - (1 : Int32) = nI (top - 1) := nI_sub (b := 1) (by omega) (by omega)
  have e2 : nI top - (2 : Int32) = nI (top - 2) := nI_sub h1 (by omega)
  rw [if_neg (fun q => by have := i32_lt.mp hn; have := i32_le.mp q; omega), ng_ng]
  refine isName_x (by omega) (fun q => absurd q (rk_nm hc)) (fun _ => ?_)
  rw [if_pos rfl, if_neg (fun q => hne.2.1 ((ng_eq (k := 95) (m := -95) (by omega) (by decide) rfl).mp q)), if_neg (fun q => hne.1 ((ng_eq (k := 33) (m := -33) (by omega) (by decide) rfl).mp q)), e1, e2, cl_nI (by omega), cl_nI (by omega)]
  refine within_x (a := 2) (b := 120) (by decide) (by decide) (fun _ => ?_) (fun q => absurd (by unfold inR; rw [nI_toInt (by omega)]; omega) q)
  rw [if_neg one_ne]
  have hv : vp_in (nI (top - 2)) 120 := vp_nI (by omega) (by decide)
  exact ⟨hv, vp_nI (by omega) (by decide), joined_x (by omega) hc ⟨hv, hK⟩⟩
theorem g_step {J : Int32 → Int32 → Sg → Prop} {m k top n : Nat} {f : Nat → Int32} {τ : Sg} {v : Int32} (hX : CX τ m f) (hk : k < m) (hc : τ.1 9 k = v) (h59 : v ≠ -59) (h63 : v ≠ -63) (hw : w_X8_work v (nI top) τ (fun r σ => w_X8_gives_l59 J n r (1 : Int32) (nI (k + 1)) σ)) : w_X8_gives_l59 J (n + 1) (nI top) (1 : Int32) (nI k) τ := by
  have hm := hX.1
  rw [w_X8_gives_l59, hX.2.1, if_neg (fun q => by have := (nI_leI (by omega) (by omega)).mp q; omega)]
  simp only [bd_eq]
  rw [if_neg one_ne, cl_nI (by omega), hc, if_neg h59, if_neg h59, if_neg h63, if_neg one_ne, nI_1]
  exact ⟨vp_nI (by omega) (by decide), vp_nI (by omega) (by decide), hw⟩
theorem g_skip {J : Int32 → Int32 → Sg → Prop} {m k n : Nat} {top : Int32} {f : Nat → Int32} {τ : Sg} {v : Int32} (hX : CX τ m f) (hk : k < m) (hc : τ.1 9 k = v) (h59 : v ≠ -59) (h63 : v ≠ -63) (hw : w_X8_gives_l59 J n top (0 : Int32) (nI (k + 1)) τ) : w_X8_gives_l59 J (n + 1) top (0 : Int32) (nI k) τ := by
  have hm := hX.1
  rw [w_X8_gives_l59, hX.2.1, if_neg (fun q => by have := (nI_leI (by omega) (by omega)).mp q; omega)]
  simp only [bd_eq]
  rw [if_pos trivial, cl_nI (by omega), hc, if_neg h59, if_neg h63, if_pos trivial, nI_1]
  exact ⟨vp_nI (by omega) (by decide), hw⟩
theorem g_ask {J : Int32 → Int32 → Sg → Prop} {m k n : Nat} {f : Nat → Int32} {τ : Sg} (hX : CX τ m f) (hk : k < m) (hc : τ.1 9 k = ngI 63) (h0 : τ.1 10 0 = 0 → w_X8_gives_l59 J n (nI 0) (0 : Int32) (nI (k + 1)) τ) (h1 : τ.1 10 0 ≠ 0 → w_X8_gives_l59 J n (nI 0) (1 : Int32) (nI (k + 1)) τ) : w_X8_gives_l59 J (n + 1) (nI (0 + 1)) (1 : Int32) (nI k) τ := by
  have hm := hX.1
  have e1 : ¬ ngI 63 = (-59 : Int32) := by decide
  rw [w_X8_gives_l59, hX.2.1, if_neg (fun q => by have := (nI_leI (by omega) (by omega)).mp q; omega)]
  simp only [bd_eq]
  rw [if_neg one_ne, cl_nI (by omega), hc, if_neg e1, if_neg e1, if_pos (show ngI 63 = (-63 : Int32) from rfl), if_neg e1, nI_1]
  refine ⟨vp_nI (by omega) (by decide), vp_nI (by omega) (by decide), valueAt_x (by omega) (by omega) ?_⟩
  by_cases q : τ.1 10 0 = 0
  · rw [if_pos q]
    exact h0 q
  · rw [if_neg q]
    exact h1 q
theorem g_next {J : Int32 → Int32 → Sg → Prop} {m k n : Nat} {top : Int32} {f : Nat → Int32} {τ : Sg} (hX : CX τ m f) (hk : k < m) (hc : τ.1 9 k = ngI 59) (h : w_X8_gives_l59 J n (nI 0) (1 : Int32) (nI (k + 1)) τ) : w_X8_gives_l59 J (n + 1) top (0 : Int32) (nI k) τ := by
  have hm := hX.1
  rw [w_X8_gives_l59, hX.2.1, if_neg (fun q => by have := (nI_leI (by omega) (by omega)).mp q; omega)]
  simp only [bd_eq]
  rw [if_pos trivial, cl_nI (by omega), hc, if_pos (show ngI 59 = (-59 : Int32) from rfl), if_pos (show ngI 59 = (-59 : Int32) from rfl), nI_1]
  exact ⟨vp_nI (by omega) (by decide), h⟩
theorem g_end {J : Int32 → Int32 → Sg → Prop} {m k : Nat} {top : Int32} {f : Nat → Int32} {τ : Sg} (hX : CX τ m f) (hk : k = m ∨ k < m ∧ τ.1 9 k = ngI 59) (h : J top 1 τ) : w_X8_gives_l59 J 1 top (1 : Int32) (nI k) τ := by
  have hm := hX.1
  rw [w_X8_gives_l59, hX.2.1]
  rcases hk with rfl | ⟨hk, hc⟩
  · rw [if_pos ((nI_leI (by omega) (by omega)).mpr (Nat.le_refl _))]
    exact h
  · rw [if_neg (fun q => by have := (nI_leI (by omega) (by omega)).mp q; omega)]
    simp only [bd_eq]
    rw [if_neg one_ne, cl_nI (by omega), hc, if_pos (show ngI 59 = (-59 : Int32) from rfl)]
    exact ⟨vp_nI (by omega) (by decide), h⟩
theorem g_end0 {J : Int32 → Int32 → Sg → Prop} {m : Nat} {top : Int32} {f : Nat → Int32} {τ : Sg} (hX : CX τ m f) (h : J top 0 τ) : w_X8_gives_l59 J 1 top (0 : Int32) (nI m) τ := by
  have hm := hX.1
  rw [w_X8_gives_l59, hX.2.1, if_pos ((nI_leI (by omega) (by omega)).mpr (Nat.le_refl _))]
  exact h
/-- neither the end of a line nor of a test -/
def okCz (L : List Int32) : Prop := ∀ v, v ∈ L → v ≠ -59 ∧ v ≠ -63
theorem ng_ne {c : Nat} (hc : c < 256) (h1 : c ≠ 59) (h2 : c ≠ 63) : ngI c ≠ -59 ∧ ngI c ≠ -63 :=
  ⟨fun q => h1 ((ng_eq (k := 59) hc (by decide) rfl).mp q), fun q => h2 ((ng_eq (k := 63) hc (by decide) rfl).mp q)⟩
theorem nI_nng {v : Nat} (hv : v < 100000) : nI v ≠ -59 ∧ nI v ≠ -63 := by
  constructor
  · intro q
    have e := congrArg Int32.toInt q
    rw [nI_toInt (by omega), show (-59 : Int32).toInt = -59 by decide] at e
    omega
  · intro q
    have e := congrArg Int32.toInt q
    rw [nI_toInt (by omega), show (-63 : Int32).toInt = -63 by decide] at e
    omega
theorem nm_59 {c : Nat} (h : nmI c < 6) : c ≠ 59 ∧ c ≠ 63 := by
  constructor
  · rintro rfl; exact absurd h (by decide)
  · rintro rfl; exact absurd h (by decide)
theorem wf_okCz {e : TreeZ} (h : wf e) : okCz (postZ e) := by
  refine h (fun e => okCz (postZ e)) (fun v hv x hx => ?_) (fun c hc x hx => ?_) (fun c e hc ih x hx => ?_) (fun c a b hc ia ib x hx => ?_)
  · rw [List.mem_singleton.mp (show x ∈ [nI v] from hx)]
    exact nI_nng (by omega)
  · rw [List.mem_singleton.mp (show x ∈ [ngI c] from hx)]
    exact ng_ne (by have := nm_lt hc; omega) (nm_59 hc).1 (nm_59 hc).2
  · rw [post_U] at hx
    rcases List.mem_append.mp hx with q | q
    · exact ih x q
    · rw [List.mem_singleton.mp q]
      exact ng_ne (by omega) (by omega) (by omega)
  · rw [post_B] at hx
    rcases List.mem_append.mp hx with q | q
    · rcases List.mem_append.mp q with q | q
      · exact ia x q
      · exact ib x q
    · rw [List.mem_singleton.mp q]
      have := rk_ne hc
      exact ng_ne (by have := rk_128 hc; omega) this.2.2.2.2.2 this.2.2.2.2.1
theorem EVx {J : Int32 → Int32 → Sg → Prop} {m : Nat} {f : Nat → Int32} {e : TreeZ} (he : wf e) : ∀ (k top : Nat) (τ : Sg), CX τ m f → sg1 (τ.1 9) k (postZ e) → k + szZ e ≤ m → top + szZ e ≤ 120 →
    (∀ τ', EX τ τ' → τ'.1 10 top = e.2 f → (∀ j, j < top → τ'.1 10 j = τ.1 10 j) → ∃ n, w_X8_gives_l59 J n (nI (top + 1)) (1 : Int32) (nI (k + szZ e)) τ') → ∃ n, w_X8_gives_l59 J n (nI top) (1 : Int32) (nI k) τ := by
  refine (he (fun e => 1 ≤ szZ e ∧ ∀ (k top : Nat) (τ : Sg), CX τ m f → sg1 (τ.1 9) k (postZ e) → k + szZ e ≤ m → top + szZ e ≤ 120 →
    (∀ τ', EX τ τ' → τ'.1 10 top = e.2 f → (∀ j, j < top → τ'.1 10 j = τ.1 10 j) → ∃ n, w_X8_gives_l59 J n (nI (top + 1)) (1 : Int32) (nI (k + szZ e)) τ') → ∃ n, w_X8_gives_l59 J n (nI top) (1 : Int32) (nI k) τ) (fun v hv => ⟨Nat.le_refl 1, ?_⟩) (fun c hc => ⟨Nat.le_refl 1, ?_⟩) (fun c e hc ih => ⟨by rw [sz_U]; omega, ?_⟩) (fun c a b hc ia ib => ⟨by rw [sz_B]; omega, ?_⟩)).2
  · intro k top τ hX hs h1 h2 hK
    have e1 : szZ (eNz v) = 1 := rfl
    rw [e1] at h1 h2 hK
    obtain ⟨n, hn⟩ := hK (sI τ 10 top (nI v)) (EX.refl τ).set (by rw [rd_in, if_pos rfl]; rfl) (fun j hj => by rw [rd_in, if_neg (by omega)])
    have hne := nI_nng (v := v) (by omega)
    exact ⟨n + 1, g_step hX (by omega) hs.1 hne.1 hne.2 (work_n (by omega) (by omega) hn)⟩
  · intro k top τ hX hs h1 h2 hK
    have e1 : szZ (eAz c) = 1 := rfl
    rw [e1] at h1 h2 hK
    obtain ⟨n, hn⟩ := hK (sI τ 10 top (f (nmI c))) (EX.refl τ).set (by rw [rd_in, if_pos rfl]; rfl) (fun j hj => by rw [rd_in, if_neg (by omega)])
    have hne := ng_ne (c := c) (by have := nm_lt hc; omega) (nm_59 hc).1 (nm_59 hc).2
    exact ⟨n + 1, g_step hX (by omega) hs.1 hne.1 hne.2 (work_a hX hc (by omega) hn)⟩
  · intro k top τ hX hs h1 h2 hK
    rw [sz_U] at h1 h2 hK
    rw [post_U] at hs
    obtain ⟨s1, s2, -⟩ := (sg_app _ _ _).mp hs
    rw [sz_post] at s2
    refine ih.2 k top τ hX s1 (by omega) (by omega) (fun τ1 q1 q2 q3 => ?_)
    obtain ⟨n, hn⟩ := hK (sI τ1 10 top (unv c (τ1.1 10 top))) q1.set (by rw [rd_in, if_pos rfl, q2]; rfl) (fun j hj => by rw [rd_in, if_neg (by omega)]; exact q3 j hj)
    have hne := ng_ne (c := c) (by omega) (by omega) (by omega)
    refine ⟨n + 1, g_step (hX.c q1) (by omega) (by rw [q1.1 9 (by decide)]; exact s2) hne.1 hne.2 (work_u hc (by omega) (by omega) ?_)⟩
    rw [Nat.add_sub_cancel]
    exact hn
  · intro k top τ hX hs h1 h2 hK
    rw [sz_B] at h1 h2 hK
    rw [post_B] at hs
    obtain ⟨s0, s3, -⟩ := (sg_app _ _ _).mp hs
    obtain ⟨s1, s2⟩ := (sg_app _ _ _).mp s0
    rw [List.length_append, sz_post, sz_post] at s3
    rw [sz_post] at s2
    have ha1 := ia.1
    have hb1 := ib.1
    refine ia.2 k top τ hX s1 (by omega) (by omega) (fun τ1 q1 q2 q3 => ?_)
    refine ib.2 (k + szZ a) (top + 1) τ1 (hX.c q1) (by rw [q1.1 9 (by decide)]; exact s2) (by omega) (by omega) (fun τ2 p1 p2 p3 => ?_)
    have q12 := q1.trans p1
    have e1 : τ2.1 10 top = a.2 f := (p3 top (by omega)).trans q2
    obtain ⟨n, hn⟩ := hK (sI τ2 10 top (jnd c (τ2.1 10 top) (τ2.1 10 (top + 1)))) q12.set (by rw [rd_in, if_pos rfl, e1, p2]; rfl) (fun j hj => by rw [rd_in, if_neg (by omega)]; exact (p3 j (by omega)).trans (q3 j hj))
    have hne := ng_ne (c := c) (by have := rk_128 hc; omega) (rk_ne hc).2.2.2.2.2 (rk_ne hc).2.2.2.2.1
    refine ⟨n + 1, g_step (hX.c q12) (by omega) (by rw [q12.1 9 (by decide), show k + szZ a + szZ b = k + (szZ a + szZ b) by omega]; exact s3) hne.1 hne.2 (work_b hc (by omega) (by omega) ?_)⟩
    rw [show top + 1 + 1 - 2 = top by omega, show top + 1 + 1 - 1 = top + 1 by omega, show k + szZ a + szZ b + 1 = k + (szZ a + szZ b + 1) by omega]
    exact hn
theorem SKx {J : Int32 → Int32 → Sg → Prop} {m : Nat} {f : Nat → Int32} {top : Int32} {τ : Sg} (hX : CX τ m f) : ∀ (L : List Int32) (k : Nat), okCz L → sg1 (τ.1 9) k L → k + L.length ≤ m → (∃ n, w_X8_gives_l59 J n top (0 : Int32) (nI (k + L.length)) τ) → ∃ n, w_X8_gives_l59 J n top (0 : Int32) (nI k) τ
  | [], k, _, _, _, h => h
  | x :: L, k, hC, hs, hl, h => by
    rw [List.length_cons] at hl h
    obtain ⟨n, hn⟩ := SKx hX L (k + 1) (fun v hv => hC v (List.mem_cons_of_mem _ hv)) hs.2 (by omega) (by rw [show k + 1 + L.length = k + (L.length + 1) by omega]; exact h)
    have hne := hC x List.mem_cons_self
    exact ⟨n + 1, g_skip hX (by omega) hs.1 hne.1 hne.2 hn⟩
def sepZ : List (Option TreeZ × TreeZ) → List Int32
  | [] => []
  | l :: ls => ngI 59 :: cdsZ (l :: ls)
theorem cds_cons (l : Option TreeZ × TreeZ) : ∀ (ls : List (Option TreeZ × TreeZ)), cdsZ (l :: ls) = cd l ++ sepZ ls
  | [] => (List.append_nil _).symm
  | _ :: _ => rfl
theorem LNx {J : Int32 → Int32 → Sg → Prop} {m : Nat} {f : Nat → Int32} : ∀ (ls : List (Option TreeZ × TreeZ)) (l : Option TreeZ × TreeZ) (k : Nat) (τ : Sg), (∀ x, x ∈ l :: ls → okL x) → CX τ m f → sg1 (τ.1 9) k (cdsZ (l :: ls)) → k + (cdsZ (l :: ls)).length = m →
    (∀ τ', EX τ τ' → τ'.1 10 0 = evL f (l :: ls) → J (nI (0 + 1)) 1 τ') → (∀ τ', EX τ τ' → evL f (l :: ls) = 0 → J (nI 0) 0 τ') → ∃ n, w_X8_gives_l59 J n (nI 0) (1 : Int32) (nI k) τ := by
  intro ls
  induction ls with
  | nil =>
    intro l k τ hL hX hs hm h1 h0
    have hl := hL l List.mem_cons_self
    have hm120 := hX.1
    obtain ⟨t, a⟩ := l
    cases t with
    | none =>
      have hs' : sg1 (τ.1 9) k (postZ a) := hs
      have hm' : k + (postZ a).length = m := hm
      rw [sz_post] at hm'
      exact EVx hl k 0 τ hX hs' (by omega) (by omega) (fun τ' q1 q2 _ => ⟨1, g_end (hX.c q1) (Or.inl hm') (h1 τ' q1 q2)⟩)
    | some t =>
      have hs' : sg1 (τ.1 9) k (postZ t ++ [ngI 63] ++ postZ a) := hs
      have hm' : k + (postZ t ++ [ngI 63] ++ postZ a).length = m := hm
      rw [List.length_append, List.length_append, sz_post, sz_post, List.length_cons, List.length_nil] at hm'
      obtain ⟨s0, s3⟩ := (sg_app _ _ _).mp hs'
      obtain ⟨s1, s2, -⟩ := (sg_app _ _ _).mp s0
      rw [List.length_append, sz_post, List.length_cons, List.length_nil] at s3
      rw [sz_post] at s2
      refine EVx hl.1 k 0 τ hX s1 (by omega) (by omega) (fun τ1 q1 q2 _ => ?_)
      have e9 : τ1.1 9 = τ.1 9 := q1.1 9 (by decide)
      have ev : evL f [(some t, a)] = if t.2 f = 0 then 0 else a.2 f := rfl
      by_cases g : t.2 f = 0
      · rw [if_pos g] at ev
        obtain ⟨n, hn⟩ := SKx (J := J) (top := nI 0) (hX.c q1) (postZ a) (k + szZ t + 1) (wf_okCz hl.2) (by rw [e9, show k + szZ t + 1 = k + (szZ t + 1) by omega]; exact s3) (by rw [sz_post]; omega) ⟨1, by rw [sz_post, show k + szZ t + 1 + szZ a = m by omega]; exact g_end0 (hX.c q1) (h0 τ1 q1 ev)⟩
        exact ⟨n + 1, g_ask (hX.c q1) (by omega) (by rw [e9]; exact s2) (fun _ => hn) (fun q => absurd (q2.trans g) q)⟩
      · rw [if_neg g] at ev
        obtain ⟨n, hn⟩ := EVx (J := J) hl.2 (k + szZ t + 1) 0 τ1 (hX.c q1) (by rw [e9, show k + szZ t + 1 = k + (szZ t + 1) by omega]; exact s3) (by omega) (by omega) (fun τ2 p1 p2 _ => ⟨1, g_end ((hX.c q1).c p1) (Or.inl (by omega)) (h1 τ2 (q1.trans p1) (p2.trans ev.symm))⟩)
        exact ⟨n + 1, g_ask (hX.c q1) (by omega) (by rw [e9]; exact s2) (fun q => absurd (q2.symm.trans q) g) (fun _ => hn)⟩
  | cons l' ls ih =>
    intro l k τ hL hX hs hm h1 h0
    have hl := hL l List.mem_cons_self
    have hm120 := hX.1
    rw [cds_cons] at hs hm
    obtain ⟨sa, sb, sc⟩ := (sg_app _ _ _).mp hs
    have hlen : (cd l ++ sepZ (l' :: ls)).length = (cd l).length + ((cdsZ (l' :: ls)).length + 1) := List.length_append
    rw [hlen] at hm
    obtain ⟨t, a⟩ := l
    cases t with
    | none =>
      have hs' : sg1 (τ.1 9) k (postZ a) := sa
      have hc : (cd (none, a)).length = szZ a := sz_post a
      rw [hc] at hm sb
      exact EVx hl k 0 τ hX hs' (by omega) (by omega) (fun τ' q1 q2 _ => ⟨1, g_end (hX.c q1) (Or.inr ⟨by omega, by rw [q1.1 9 (by decide)]; exact sb⟩) (h1 τ' q1 q2)⟩)
    | some t =>
      have hs' : sg1 (τ.1 9) k (postZ t ++ [ngI 63] ++ postZ a) := sa
      have hc : (cd (some t, a)).length = szZ t + 1 + szZ a := by
        show (postZ t ++ [ngI 63] ++ postZ a).length = _
        rw [List.length_append, List.length_append, sz_post, sz_post, List.length_cons, List.length_nil]
      rw [hc] at hm sb sc
      obtain ⟨s0, s3⟩ := (sg_app _ _ _).mp hs'
      obtain ⟨s1, s2, -⟩ := (sg_app _ _ _).mp s0
      rw [List.length_append, sz_post, List.length_cons, List.length_nil] at s3
      rw [sz_post] at s2
      refine EVx hl.1 k 0 τ hX s1 (by omega) (by omega) (fun τ1 q1 q2 _ => ?_)
      have e9 : τ1.1 9 = τ.1 9 := q1.1 9 (by decide)
      have ev : evL f ((some t, a) :: l' :: ls) = if t.2 f = 0 then evL f (l' :: ls) else a.2 f := rfl
      by_cases g : t.2 f = 0
      · rw [if_pos g] at ev
        rw [ev] at h1 h0
        obtain ⟨n0, hn0⟩ := ih l' (k + (szZ t + 1 + szZ a) + 1) τ1 (fun x hx => hL x (List.mem_cons_of_mem _ hx)) (hX.c q1) (by rw [e9]; exact sc) (by omega) (fun τ' p1 p2 => h1 τ' (q1.trans p1) p2) (fun τ' p1 p2 => h0 τ' (q1.trans p1) p2)
        obtain ⟨n, hn⟩ := SKx (J := J) (top := nI 0) (hX.c q1) (postZ a) (k + szZ t + 1) (wf_okCz hl.2) (by rw [e9, show k + szZ t + 1 = k + (szZ t + 1) by omega]; exact s3) (by rw [sz_post]; omega) ⟨n0 + 1, by rw [sz_post, show k + szZ t + 1 + szZ a = k + (szZ t + 1 + szZ a) by omega]; exact g_next (hX.c q1) (by omega) (by rw [e9]; exact sb) hn0⟩
        exact ⟨n + 1, g_ask (hX.c q1) (by omega) (by rw [e9]; exact s2) (fun _ => hn) (fun q => absurd (q2.trans g) q)⟩
      · rw [if_neg g] at ev
        obtain ⟨n, hn⟩ := EVx (J := J) hl.2 (k + szZ t + 1) 0 τ1 (hX.c q1) (by rw [e9, show k + szZ t + 1 = k + (szZ t + 1) by omega]; exact s3) (by omega) (by omega) (fun τ2 p1 p2 _ => ⟨1, g_end ((hX.c q1).c p1) (Or.inr ⟨by omega, by rw [p1.1 9 (by decide), e9, show k + szZ t + 1 + szZ a = k + (szZ t + 1 + szZ a) by omega]; exact sb⟩) (h1 τ2 (q1.trans p1) (p2.trans ev.symm))⟩)
        exact ⟨n + 1, g_ask (hX.c q1) (by omega) (by rw [e9]; exact s2) (fun q => absurd (q2.symm.trans q) g) (fun _ => hn)⟩
def clz (r : Int32) : Int32 := imax (-1) (imin 1 r)
theorem clz_in (r : Int32) : inR (clz r) (-1) 1 := by
  unfold clz imax imin inR
  have e1 : (1 : Int32).toInt = 1 := by decide
  have e2 : (-1 : Int32).toInt = -1 := by decide
  by_cases g : r < 1
  · rw [if_pos g]
    have := i32_lt.mp g
    by_cases g2 : -1 < r
    · rw [if_pos g2]
      have := i32_lt.mp g2
      omega
    · rw [if_neg g2, e2]
      omega
  · rw [if_neg g, if_pos (by decide), e1]
    omega
theorem gives_x {σ : Sg} {ls : List (Option TreeZ × TreeZ)} {l : Option TreeZ × TreeZ} {w s h d k p : Int32} {Q : Int32 → Sg → Prop} (hL : ∀ x, x ∈ l :: ls → okL x) (hm : (cdsZ (l :: ls)).length ≤ 120) (hs : sg1 (σ.1 9) 0 (cdsZ (l :: ls))) (h8 : σ.1 8 1 = nI (cdsZ (l :: ls)).length) (h0 : 0 < (cdsZ (l :: ls)).length) (hQ : ∀ τ, OffX σ τ → Q (clz (evL (fcs w s h d k p) (l :: ls))) τ) : w_X8_gives w s h d k p σ Q := by
  unfold w_X8_gives
  rw [h8, if_neg (nI_ne0 h0 (by omega))]
  simp only [bd_eq]
  have hof : ∀ τ, EX (sI (sI (sI (sI (sI (sI σ 8 3 w) 8 4 s) 8 5 h) 8 6 d) 8 7 k) 8 8 p) τ → OffX σ τ := by
    intro τ e
    refine ⟨fun c h1 h2 => ?_, ?_, e.2⟩
    · rw [e.1 c h2, rd_ne h1, rd_ne h1, rd_ne h1, rd_ne h1, rd_ne h1, rd_ne h1]
    · rw [e.1 8 (by decide)]
      simp [rd_in]
  refine LNx (m := (cdsZ (l :: ls)).length) (f := fcs w s h d k p) ls l 0 _ hL ⟨hm, ?_, fun i hi => ?_⟩ ?_ (Nat.zero_add _) (fun τ e q => ?_) (fun τ e q => ?_)
  · simp [rd_in]
    exact h8
  · rcases (show i = 0 ∨ i = 1 ∨ i = 2 ∨ i = 3 ∨ i = 4 ∨ i = 5 by omega) with rfl | rfl | rfl | rfl | rfl | rfl <;> simp [rd_in, fcs]
  · rw [rd_ne (by decide), rd_ne (by decide), rd_ne (by decide), rd_ne (by decide), rd_ne (by decide), rd_ne (by decide)]
    exact hs
  · rw [if_neg one_ne]
    refine valueAt_x (by omega) (by omega) ?_
    have k1 := hQ τ (hof τ e)
    rw [← q] at k1
    exact k1
  · rw [if_pos rfl]
    have k1 := hQ τ (hof τ e)
    rw [q] at k1
    exact k1
