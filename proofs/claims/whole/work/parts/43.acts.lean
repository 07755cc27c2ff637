/-! kinds and acts -/
def abv (x : Nat) : Nat := [0, 0, 0, 2, 1, 3, 0, 6].getD x 0
def upF : Nat → Nat → Nat → Bool
  | 0, _, _ => false
  | d + 1, x, y => if x = y then true else if x = 0 then false else upF d (abv x) y
theorem ab1 : ∀ x, x < 8 → x ≠ 0 → exC 7 x = nI (abv x) ∧ abv x < 8 := by decide +kernel
theorem und_l {y : Nat} {σ : Sg} {Q : Int32 → Sg → Prop} (hy : y < 8) : ∀ (d c x : Nat), c + d = 8 → x < 8 → Q (if upF d x y = true then 1 else 0) σ → w_X0_isOrUnder_l4 (nI y) Q (d + 2) (nI x) (nI c) σ
  | 0, c, x, h, hx, hQ => by
    have : c = 8 := by omega
    subst this
    unfold w_X0_isOrUnder_l4
    rw [if_pos (by decide)]
    exact hQ
  | d + 1, c, x, h, hx, hQ => by
    unfold w_X0_isOrUnder_l4
    rw [if_neg (show ¬ (8 : Int32) ≤ nI c from nI_ge (b := 8) (by omega) (by decide))]
    refine within_x (a := 0) (b := 7) (by decide) (by decide) (fun _ => ?_) (fun q => absurd (nI_inR (b := 7) (by omega) (by decide)) q)
    rw [if_neg one_ne]
    have e : upF (d + 1) x y = if x = y then true else if x = 0 then false else upF d (abv x) y := rfl
    rw [e] at hQ
    by_cases g : x = y
    · rw [if_pos g, if_pos rfl] at hQ
      rw [if_pos (by rw [g])]
      exact hQ
    · rw [if_neg g] at hQ
      rw [if_neg (fun q => g (nI_inj (by omega) (by omega) q)), cl_nI (by omega), nI_1, bd_eq]
      refine ⟨vp_nI hx (by decide), ?_⟩
      by_cases g0 : x = 0
      · subst g0
        rw [if_pos rfl, if_neg (by decide)] at hQ
        unfold w_X0_isOrUnder_l4
        by_cases g8 : (8 : Int32) ≤ nI (c + 1)
        · rw [if_pos g8]; exact hQ
        · rw [if_neg g8]
          have : exC 7 0 = -1 := by decide
          rw [this]
          refine within_x (a := 0) (b := 7) (by decide) (by decide) (fun q => absurd q (by unfold inR; decide)) (fun _ => ?_)
          rw [if_pos rfl]
          exact hQ
      · rw [if_neg g0] at hQ
        obtain ⟨a1, a2⟩ := ab1 x hx g0
        rw [a1]
        exact und_l hy d (c + 1) (abv x) (by omega) a2 hQ
theorem und_x {x y : Nat} {σ : Sg} {Q : Int32 → Sg → Prop} (hx : x < 8) (hy : y < 8) (hQ : Q (if upF 8 x y = true then 1 else 0) σ) : w_X0_isOrUnder (nI x) (nI y) σ Q := ⟨10, und_l hy 8 0 x (by decide) hx hQ⟩
def isuV (a b : Int32) : Int32 :=
  if b = 0 then 1 else if a = b then 1 else if b = 1 then (if a = 4 then 1 else if b = 2 then (if a = 3 then 1 else if a = 5 then 1 else if b = 3 then (if a = 5 then 1 else if b = 6 then (if a = 7 then 1 else 0) else 0) else if b = 6 then (if a = 7 then 1 else 0) else 0) else if b = 3 then (if a = 5 then 1 else if b = 6 then (if a = 7 then 1 else 0) else 0) else if b = 6 then (if a = 7 then 1 else 0) else 0)
  else if b = 2 then (if a = 3 then 1 else if a = 5 then 1 else if b = 3 then (if a = 5 then 1 else if b = 6 then (if a = 7 then 1 else 0) else 0) else if b = 6 then (if a = 7 then 1 else 0) else 0) else if b = 3 then (if a = 5 then 1 else if b = 6 then (if a = 7 then 1 else 0) else 0) else if b = 6 then (if a = 7 then 1 else 0) else 0
theorem isu_e {a b : Int32} {σ : Sg} {Q : Int32 → Sg → Prop} : w_X12_isUnder a b σ Q = Q (isuV a b) σ := by
  simp only [w_X12_isUnder, bd_eq, isuV]
  repeat' split
  all_goals rfl
theorem isu1 : ∀ x, x < 8 → ∀ y, y < 8 → isuV (nI x) (nI y) = if upF 8 x y = true then 1 else 0 := by decide +kernel
theorem isu_m {x y : Nat} (hx : x < 8) (hy : y < 8) {σ : Sg} {Q : Int32 → Sg → Prop} : w_X12_isUnder (nI x) (nI y) σ Q = Q (if upF 8 x y = true then 1 else 0) σ := by rw [isu_e, isu1 x hx y hy]
theorem take_b {a k : Int32} {σ : Sg} {Q : Int32 → Sg → Prop} (h : ¬ (inR a 0 5 ∧ inR k 0 7)) (hQ : Q (-1) σ) : w_X12_taken a k σ Q := by
  unfold w_X12_taken
  refine shelf_m (fun h1 => ?_) (fun _ => by rw [if_pos rfl]; exact hQ)
  rw [if_neg one_ne]
  exact in_m (a := 0) (b := 7) (by decide) (by decide) (fun h2 => absurd ⟨h1, h2⟩ h) (fun _ => by rw [if_pos rfl]; exact hQ)
theorem op_taken {N : Nat} {σ : Sg} (hI : Inv N σ) (a k : Int32) {Q : Int32 → Int32 → Sg → Prop} (hQ : ∀ r σ', Inv (N + 1) σ' → Q r r σ') : w_X11_taken a k σ (fun r σ1 => w_X12_taken a k σ1 (fun r' σ2 => Q r r' σ2)) := by
  have hS := hI.2.2.2.2.2.1
  have hU := Inv_up hI
  obtain ⟨t1, t2, b', r, hb', -, b1', b2, -, -, hk8⟩ := id hI.2.2.2.2.1
  obtain ⟨b, hb, b1, hs⟩ := sh_of hS
  have hbb : b' = b := nI_inj (by omega) (by omega) (b1'.symm.trans b1)
  subst hbb
  unfold w_X11_taken
  refine shelf_x (fun h1 => ?_) (fun h => by rw [if_pos rfl]; exact take_b (fun q => h q.1) (hQ _ _ hU))
  rw [if_neg one_ne]
  refine within_x (a := 0) (b := 7) (by decide) (by decide) (fun h2 => ?_) (fun h => by rw [if_pos rfl]; exact take_b (fun q => h q.2) (hQ _ _ hU))
  rw [if_neg one_ne]
  obtain ⟨s, hs6, rfl⟩ := s6 h1
  obtain ⟨y, hy, rfl⟩ := inR_num (b := 7) h2 (by decide)
  have hv := vp_nI hs6 (show 6 < 1000000 by decide)
  rw [cl_nI (by omega)]
  refine ⟨hv, ?_⟩
  have mopen : ∀ {P : Int32 → Sg → Prop}, (vp_in (nI s) 6 ∧ if (σ.1 91 s) = (-1 : Int32) then (P (-11 : Int32) σ) else (vp_in (nI s) 6 ∧ if (σ.1 91 s) < 0 then (P (-12 : Int32) σ) else (vp_in (nI s) 6 ∧ vp_in (σ.1 91 s) 50 ∧ w_X12_isUnder (σ.1 89 (Int32.toNatClampNeg (σ.1 91 s))) (nI y) σ (fun r6 σ5 => if r6 = 0 then (P (-12 : Int32) σ5) else (vp_in (nI s) 6 ∧ vp_in (σ5.1 91 s) 50 ∧ P (σ5.1 89 (Int32.toNatClampNeg (σ5.1 91 s))) σ5))))) → w_X12_taken (nI s) (nI y) σ P := by
    intro P h
    unfold w_X12_taken
    refine shelf_m (fun _ => ?_) (fun q => absurd h1 q)
    rw [if_neg one_ne]
    refine in_m (a := 0) (b := 7) (by decide) (by decide) (fun _ => ?_) (fun q => absurd h2 q)
    rw [if_neg one_ne, cl_nI (by omega)]
    exact h
  rcases (hs s hs6).1 with h | ⟨m, h⟩ | ⟨q, n, h⟩
  · rw [h.2, if_pos rfl]
    refine mopen ⟨hv, ?_⟩
    rw [h.1, if_pos rfl]
    exact hQ _ _ hU
  · obtain ⟨hm, h91, hs0, hs1⟩ := h
    obtain ⟨kd, kd1, kd2⟩ := inR_num (b := 7) (hk8 m hm) (by decide)
    rw [hs0, if_neg (by decide), if_pos rfl, hs1]
    unfold w_X0_kindOf
    refine body_x (n := b') (by omega) b1 (fun _ => ?_) (fun q => absurd ⟨m, hm, rfl⟩ q)
    rw [if_neg one_ne, cl_nI (by omega), kd2]
    refine ⟨vp_nI (by omega) (by decide), und_x (by omega) (by omega) ?_⟩
    have hv5 : vp_in (nI m) 50 := vp_nI (by omega) (by decide)
    by_cases g : upF 8 kd y = true
    · rw [if_pos g, if_neg one_ne]
      refine mopen ⟨hv, ?_⟩
      rw [h91, if_neg (nI_n1 (by omega)).1, if_neg (nI_n1 (by omega)).2.1]
      refine ⟨hv, hv, hv5, ?_⟩
      rw [cl_nI (by omega), t1, kd2, isu_m (by omega) (by omega), if_pos g, if_neg one_ne, h91, cl_nI (by omega), t1, kd2]
      exact ⟨hv, hv5, hQ _ _ hU⟩
    · rw [if_neg g, if_pos rfl]
      refine mopen ⟨hv, ?_⟩
      rw [h91, if_neg (nI_n1 (by omega)).1, if_neg (nI_n1 (by omega)).2.1]
      refine ⟨hv, hv, hv5, ?_⟩
      rw [cl_nI (by omega), t1, kd2, isu_m (by omega) (by omega), if_neg g, if_pos rfl]
      exact hQ _ _ hU
  · obtain ⟨q1, q2, q3, q4, q5, q6⟩ := h
    rw [q4, if_neg (m2q q q1).2.2.2.2.1, if_neg (m2q q q1).2.2.2.2.2]
    refine mopen ⟨hv, ?_⟩
    rw [q3, if_neg (m2q q q1).1, if_pos (m2q q q1).2.1]
    exact ⟨hv, hQ _ _ hU⟩
/-! acts: what is answered, and which bodies run -/
def hol (x a : Nat) : Nat := ([0, 1, 0, 0, 1, 0, 6, 7, 0, 0, 2, 3, 0, 3, 0, 7, 0, 0, 0, 3, 0, 5, 0, 0, 0, 0, 0, 0, 4, 5, 0, 0]).getD (8 * a + x) 0
def ownT (h a : Nat) : Nat := ([1, 10, 11, 2, 20, 0, 0, 0, 0, 30, 0, 0, 0, 41, 40, 0, 0, 0, 0, 50, 0, 0, 60, 61, 70, 0, 0, 0, 81, 80, 0, 0]).getD (4 * h + a) 0
theorem hol1 : ∀ x, x < 8 → ∀ a, a < 4 → exC 6 (4 * x + a) = nI (ownT x a) ∧ (ownT x a ≠ 0 → hol x a = x) ∧ (ownT x a = 0 → x ≠ 0 ∧ hol (abv x) a = hol x a) ∧ hol x a < 8 ∧ ownT x a < 100 := by decide +kernel
/-- how many steps upward -/
def dph (x : Nat) : Nat := [0, 1, 1, 2, 2, 3, 1, 2].getD x 0
theorem dph1 : ∀ x, x < 8 → x ≠ 0 → dph (abv x) + 1 = dph x ∧ dph x ≤ 3 := by decide +kernel
theorem hold_l {a : Nat} {σ : Sg} {Q : Int32 → Sg → Prop} (ha : a < 4) : ∀ (d c x : Nat), x < 8 → dph x ≤ d → c + d ≤ 7 → Q (nI (hol x a)) σ → w_X0_holderOf_l4 (nI a) Q (d + 1) (nI x) (nI c) σ
  | d, c, x, hx, hd, hc, hQ => by
    obtain ⟨h1, h2, h3, h4, h5⟩ := hol1 x hx a ha
    unfold w_X0_holderOf_l4
    rw [if_neg (show ¬ (8 : Int32) ≤ nI c from nI_ge (b := 8) (by omega) (by decide))]
    refine within_x (a := 0) (b := 7) (by decide) (by decide) (fun _ => ?_) (fun q => absurd (nI_inR (b := 7) (by omega) (by decide)) q)
    have e : ((4 : Int32) * nI x) + nI a = nI (4 * x + a) := by rw [show (4 : Int32) = nI 4 from rfl, pk_mul, nI_add]
    rw [if_neg one_ne, e, cl_nI (by omega), h1]
    refine ⟨vp_nI (by omega) (by decide), ?_⟩
    by_cases g : ownT x a = 0
    · rw [g, if_pos nI_0]
      obtain ⟨g1, g2⟩ := h3 g
      obtain ⟨a1, a2⟩ := ab1 x hx g1
      obtain ⟨d1, d2⟩ := dph1 x hx g1
      rw [cl_nI (by omega), a1, bd_eq, nI_1]
      refine ⟨vp_nI hx (by decide), ?_⟩
      cases d with
      | zero => omega
      | succ d =>
        refine hold_l ha d (c + 1) (abv x) a2 (by omega) (by omega) ?_
        rw [g2]; exact hQ
    · rw [if_neg (nI_ne0 (by omega) (by omega))]
      rw [h2 g] at hQ
      exact hQ
  termination_by d => d
theorem hold_x {x a : Nat} {σ : Sg} {Q : Int32 → Sg → Prop} (hx : x < 8) (ha : a < 4) (hQ : Q (nI (hol x a)) σ) : w_X0_holderOf (nI x) (nI a) σ Q := by
  refine ⟨8, hold_l ha 7 0 x hx ?_ (by decide) hQ⟩
  by_cases g : x = 0
  · subst g; decide
  · have := (dph1 x hx g).2; omega
/-- bodies that ran: the row, how many -/
def ph (a : (Nat → Int32) × Nat) (b : Nat) : (Nat → Int32) × Nat := (if a.2 < 24 then (fun j => if j = a.2 then nI b else a.1 j) else a.1, a.2 + 1)
def phs (a : (Nat → Int32) × Nat) : List Nat → (Nat → Int32) × Nat
  | [] => a
  | b :: L => phs (ph a b) L
theorem phs_app (L : List Nat) : ∀ (a : (Nat → Int32) × Nat) (M : List Nat), phs a (L ++ M) = phs (phs a L) M := by
  induction L with
  | nil => intro a M; rfl
  | cons b L ih => intro a M; exact ih (ph a b) M
theorem phs_2 (L : List Nat) : ∀ (a : (Nat → Int32) × Nat), (phs a L).2 = a.2 + L.length := by
  induction L with
  | nil => intro a; rfl
  | cons b L ih => intro a; show (phs (ph a b) L).2 = _; rw [ih]; show a.2 + 1 + _ = _; rw [List.length_cons]; omega
/-- the class's side: what acts leave -/
def Fb (σ σ' : Sg) : Prop := (∀ c, c ≠ 57 → c ≠ 59 → σ'.1 c = σ.1 c) ∧ (∀ i, i ≠ 3 → σ'.1 57 i = σ.1 57 i) ∧ σ'.2 = σ.2
theorem Fb.refl (σ : Sg) : Fb σ σ := ⟨fun _ _ _ => rfl, fun _ _ => rfl, rfl⟩
theorem Fb.trans {a b c : Sg} (h1 : Fb a b) (h2 : Fb b c) : Fb a c := ⟨fun x h h' => (h2.1 x h h').trans (h1.1 x h h'), fun x h => (h2.2.1 x h).trans (h1.2.1 x h), h2.2.2.trans h1.2.2⟩
def TX (σ : Sg) (a : (Nat → Int32) × Nat) : Prop := σ.1 59 = a.1 ∧ σ.1 57 3 = nI a.2 ∧ a.2 ≤ 1000
def SX4 (σ : Sg) (b s kd : Nat) : Prop := σ.1 57 1 = nI b ∧ σ.1 57 4 = nI s ∧ s < b ∧ b ≤ 50 ∧ σ.1 58 s = nI kd ∧ kd < 8
theorem SX4.f {σ σ' : Sg} {b s kd : Nat} (h : SX4 σ b s kd) (f : Fb σ σ') : SX4 σ' b s kd := ⟨by rw [f.2.1 1 (by decide), h.1], by rw [f.2.1 4 (by decide), h.2.1], h.2.2.1, h.2.2.2.1, by rw [f.1 58 (by decide) (by decide), h.2.2.2.2.1], h.2.2.2.2.2⟩
/-- run(), by few steps left: what it answers, what ran -/
def ru (s kd : Nat) : Nat → Nat → Nat → Int32 → Option (Int32 × List Nat)
  | 0, _, _, _ => none
  | n + 1, k, a, x => match ownT (hol k a) a with
    | 1 => some (x + nI s, [1])
    | 10 => (ru s kd n kd 0 x).map (fun r => (r.1 * 2, 10 :: r.2))
    | 11 => some (x ^^^ nI s, [11])
    | 2 => match ru s kd n kd 1 x, ru s kd n kd 2 1 with
      | some r, some q => some (r.1 - q.1, 2 :: (r.2 ++ q.2))
      | _, _ => none
    | 20 => (ru s kd n (abv (hol k a)) 0 x).map (fun r => (r.1 + 3, 20 :: r.2))
    | 30 => (ru s kd n (abv (hol k a)) 1 x).map (fun r => (-r.1, 30 :: r.2))
    | 40 => (ru s kd n (abv (hol k a)) 2 x).map (fun r => (r.1 * 3, 40 :: r.2))
    | 41 => (ru s kd n (abv (hol k a)) 1 (x + 1)).map (fun r => (r.1, 41 :: r.2))
    | 50 => (ru s kd n (abv (hol k a)) 3 x).map (fun r => (r.1 ^^^ 5, 50 :: r.2))
    | 60 => match ru s kd n (abv (hol k a)) 2 x, ru s kd n kd 0 2 with
      | some r, some q => some (r.1 - q.1, 60 :: (r.2 ++ q.2))
      | _, _ => none
    | 61 => (ru s kd n (abv (hol k a)) 3 x).map (fun r => (r.1 + 1, 61 :: r.2))
    | 70 => (ru s kd n (abv (hol k a)) 0 x).map (fun r => (r.1 * 2, 70 :: r.2))
    | 80 => match ru s kd n (abv (hol k a)) 1 x, ru s kd n kd 2 2 with
      | some r, some q => some (r.1 + q.1, 80 :: (r.2 ++ q.2))
      | _, _ => none
    | 81 => (ru s kd n (abv (hol k a)) 0 x).map (fun r => (r.1 - 1, 81 :: r.2))
    | _ => none
