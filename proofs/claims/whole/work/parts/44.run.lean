/-! run(), on the class's side -/
theorem ph_x {b : Nat} {a : (Nat → Int32) × Nat} {σ : Sg} {J : Sg → Prop} (hT : TX σ a) (ha : a.2 < 1000) (hJ : ∀ σ', Fb σ σ' → TX σ' (ph a b) → J σ') : bd (fun (σ4 : Sg) => bd (sI σ4 57 3 ((σ4.1 57 3) + (1 : Int32))) fun σ5 => J σ5) fun J53 => if (24 : Int32) ≤ (σ.1 57 3) then (J53 σ) else (vp_in (σ.1 57 3) 24 ∧ bd (sI σ 59 (Int32.toNatClampNeg (σ.1 57 3)) (nI b)) fun σ10 => J53 σ10) := by
  obtain ⟨t1, t2, t3'⟩ := hT
  rw [bd_eq, t2]
  by_cases g : a.2 < 24
  · rw [if_neg (show ¬ (24 : Int32) ≤ nI a.2 from nI_ge (b := 24) g (by decide)), cl_nI (by omega), bd_eq]
    refine ⟨vp_nI g (by decide), ?_⟩
    dsimp only
    rw [bd_eq, rd_ne (show 57 ≠ 59 by decide), t2, nI_1]
    refine hJ _ ⟨fun c h1 h2 => by rw [rd_ne h1, rd_ne h2], fun i hi => by rw [rd_in, if_neg hi, rd_ne (by decide)], rfl⟩ ⟨?_, ?_, ?_⟩
    · rw [rd_ne (by decide), rd_fn, t1]
      unfold ph
      rw [if_pos g]
    · rw [rd_in, if_pos rfl]; rfl
    · show a.2 + 1 ≤ 1000; omega
  · rw [if_pos (show (24 : Int32) ≤ nI a.2 from nI_le (a := 24) (by omega) (by omega))]
    dsimp only
    rw [bd_eq, t2, nI_1]
    refine hJ _ ⟨fun c h1 h2 => by rw [rd_ne h1], fun i hi => by rw [rd_in, if_neg hi], rfl⟩ ⟨?_, ?_, ?_⟩
    · rw [rd_ne (by decide), t1]
      unfold ph
      rw [if_neg g]
    · rw [rd_in, if_pos rfl]; rfl
    · show a.2 + 1 ≤ 1000; omega
def FF (F : Int32 → Int32 → Int32 → Int32 → Sg → (Int32 → Sg → Prop) → Prop) (b s kd n : Nat) : Prop := ∀ (k a dp : Nat) (x : Int32) (σ : Sg) (tra : (Nat → Int32) × Nat) (v : Int32) (L : List Nat) (Q : Int32 → Sg → Prop), k < 8 → a < 4 → ru s kd n k a x = some (v, L) → SX4 σ b s kd → TX σ tra → tra.2 + L.length ≤ 1000 → dp + n ≤ 41 → (∀ σ', Fb σ σ' → TX σ' (phs tra L) → Q v σ') → F (nI k) (nI a) x (nI dp) σ Q
theorem own_x {F : Int32 → Int32 → Int32 → Int32 → Sg → (Int32 → Sg → Prop) → Prop} {b s kd : Nat} {a0 b0 c0 : Int32} {σ : Sg} {Q : Int32 → Sg → Prop} (h : SX4 σ b s kd) (hQ : F (nI kd) a0 b0 c0 σ Q) : w_X0_own F a0 b0 c0 σ Q := by
  obtain ⟨h1, h2, h3, h4, h5, h6⟩ := h
  unfold w_X0_own w_X0_kindOf
  rw [h2]
  refine body_x (n := b) (by omega) h1 (fun _ => ?_) (fun q => absurd ⟨s, h3, rfl⟩ q)
  rw [if_neg one_ne, cl_nI (by omega), h5]
  exact ⟨vp_nI (by omega) (by decide), hQ⟩
theorem hol2 : ∀ k, k < 8 → ∀ a, a < 4 → (hol k a, a) ∈ [(0, 0), (0, 1), (0, 2), (0, 3), (1, 0), (2, 1), (3, 1), (3, 2), (4, 3), (5, 2), (5, 3), (6, 0), (7, 0), (7, 1)] := by decide +kernel
/-- one step, by the body that runs -/
def ruB (s kd n : Nat) (bo ab : Nat) (x : Int32) : Option (Int32 × List Nat) := match bo with
    | 1 => some (x + nI s, [1])
    | 10 => (ru s kd n kd 0 x).map (fun r => (r.1 * 2, 10 :: r.2))
    | 11 => some (x ^^^ nI s, [11])
    | 2 => match ru s kd n kd 1 x, ru s kd n kd 2 1 with
      | some r, some q => some (r.1 - q.1, 2 :: (r.2 ++ q.2))
      | _, _ => none
    | 20 => (ru s kd n ab 0 x).map (fun r => (r.1 + 3, 20 :: r.2))
    | 30 => (ru s kd n ab 1 x).map (fun r => (-r.1, 30 :: r.2))
    | 40 => (ru s kd n ab 2 x).map (fun r => (r.1 * 3, 40 :: r.2))
    | 41 => (ru s kd n ab 1 (x + 1)).map (fun r => (r.1, 41 :: r.2))
    | 50 => (ru s kd n ab 3 x).map (fun r => (r.1 ^^^ 5, 50 :: r.2))
    | 60 => match ru s kd n ab 2 x, ru s kd n kd 0 2 with
      | some r, some q => some (r.1 - q.1, 60 :: (r.2 ++ q.2))
      | _, _ => none
    | 61 => (ru s kd n ab 3 x).map (fun r => (r.1 + 1, 61 :: r.2))
    | 70 => (ru s kd n ab 0 x).map (fun r => (r.1 * 2, 70 :: r.2))
    | 80 => match ru s kd n ab 1 x, ru s kd n kd 2 2 with
      | some r, some q => some (r.1 + q.1, 80 :: (r.2 ++ q.2))
      | _, _ => none
    | 81 => (ru s kd n ab 0 x).map (fun r => (r.1 - 1, 81 :: r.2))
    | _ => none
theorem ru_B (s kd n k a : Nat) (x : Int32) : ru s kd (n + 1) k a x = ruB s kd n (ownT (hol k a) a) (abv (hol k a)) x := rfl
theorem opt_1 {o : Option (Int32 × List Nat)} {f : Int32 × List Nat → Int32 × List Nat} {v : Int32} {L : List Nat} (h : o.map f = some (v, L)) : ∃ v1 L1, o = some (v1, L1) ∧ f (v1, L1) = (v, L) := by
  cases o with
  | none => exact absurd h (by simp)
  | some r => exact ⟨r.1, r.2, rfl, by simpa using h⟩
theorem first_x {F : Int32 → Int32 → Int32 → Int32 → Sg → (Int32 → Sg → Prop) → Prop} {b s kd n bo ab dp : Nat} {x v : Int32} {L : List Nat} {σ : Sg} {tra : (Nat → Int32) × Nat} {Q : Int32 → Sg → Prop} (hF : FF F b s kd n) (hbo : bo = 1 ∨ bo = 10 ∨ bo = 11 ∨ bo = 2) (hru : ruB s kd n bo ab x = some (v, L)) (h4 : SX4 σ b s kd) (hT : TX σ (ph tra bo)) (hl : tra.2 + L.length ≤ 1000) (hd : dp + n ≤ 41)
    (hQ : ∀ σ', Fb σ σ' → TX σ' (phs tra L) → Q v σ') : w_X0_first F (nI bo) x (nI dp) σ Q := by
  have hk := h4.2.2.2.2.2
  unfold w_X0_first
  rcases hbo with rfl | rfl | rfl | rfl
  · rw [if_pos (show nI 1 = (1 : Int32) from rfl), h4.2.1]
    have e : (x + nI s, [1]) = (v, L) := Option.some.inj hru
    cases e
    exact hQ σ (Fb.refl σ) hT
  · rw [if_neg (show ¬ nI 10 = (1 : Int32) by decide), if_neg (show ¬ nI 10 = (2 : Int32) by decide), if_pos (show nI 10 = (10 : Int32) from rfl)]
    obtain ⟨v1, L1, e1, e2⟩ := opt_1 hru
    cases e2
    replace hl : tra.2 + (L1.length + 1) ≤ 1000 := hl
    refine own_x h4 (hF kd 0 dp x σ (ph tra 10) v1 L1 _ hk (by decide) e1 h4 hT (by show tra.2 + 1 + _ ≤ _; omega) hd (fun σ' f t => hQ σ' f t))
  · rw [if_neg (show ¬ nI 11 = (1 : Int32) by decide), if_neg (show ¬ nI 11 = (2 : Int32) by decide), if_neg (show ¬ nI 11 = (10 : Int32) by decide), if_pos (show nI 11 = (11 : Int32) from rfl), h4.2.1]
    have e : (x ^^^ nI s, [11]) = (v, L) := Option.some.inj hru
    cases e
    exact hQ σ (Fb.refl σ) hT
  · rw [if_neg (show ¬ nI 2 = (1 : Int32) by decide), if_pos (show nI 2 = (2 : Int32) from rfl)]
    have hru' : (match ru s kd n kd 1 x, ru s kd n kd 2 1 with | some r, some q => some (r.1 - q.1, 2 :: (r.2 ++ q.2)) | _, _ => none) = some (v, L) := hru
    cases e1 : ru s kd n kd 1 x with
    | none => rw [e1] at hru'; exact absurd hru' (by simp)
    | some r =>
      cases e2 : ru s kd n kd 2 1 with
      | none => rw [e1, e2] at hru'; exact absurd hru' (by simp)
      | some q =>
        rw [e1, e2] at hru'
        have e : (r.1 - q.1, 2 :: (r.2 ++ q.2)) = (v, L) := Option.some.inj hru'
        cases e
        rw [List.length_cons, List.length_append] at hl
        refine own_x h4 (hF kd 1 dp x σ (ph tra 2) r.1 r.2 _ hk (by decide) e1 h4 hT (by show tra.2 + 1 + _ ≤ _; omega) hd (fun σ1 f t => ?_))
        refine own_x (h4.f f) (hF kd 2 dp 1 σ1 (phs (ph tra 2) r.2) q.1 q.2 _ hk (by decide) e2 (h4.f f) t (by rw [phs_2]; show tra.2 + 1 + _ + _ ≤ _; omega) hd (fun σ2 f2 t2 => ?_))
        refine hQ σ2 (f.trans f2) ?_
        show TX σ2 (phs (ph tra 2) (r.2 ++ q.2))
        rw [phs_app]
        exact t2
theorem inh_x {F : Int32 → Int32 → Int32 → Int32 → Sg → (Int32 → Sg → Prop) → Prop} {b s kd n bo ab dp : Nat} {x v : Int32} {L : List Nat} {σ : Sg} {tra : (Nat → Int32) × Nat} {Q : Int32 → Sg → Prop} (hF : FF F b s kd n) (hab : ab < 8) (hbo : bo = 20 ∨ bo = 30 ∨ bo = 40 ∨ bo = 41 ∨ bo = 50 ∨ bo = 60 ∨ bo = 61 ∨ bo = 70 ∨ bo = 80 ∨ bo = 81) (hru : ruB s kd n bo ab x = some (v, L)) (h4 : SX4 σ b s kd) (hT : TX σ (ph tra bo)) (hl : tra.2 + L.length ≤ 1000) (hd : dp + n ≤ 41)
    (hQ : ∀ σ', Fb σ σ' → TX σ' (phs tra L) → Q v σ') : w_X0_inherited F (nI bo) (nI ab) x (nI dp) σ Q := by
  have hk := h4.2.2.2.2.2
  unfold w_X0_inherited
  rcases hbo with rfl | rfl | rfl | rfl | rfl | rfl | rfl | rfl | rfl | rfl
  · rw [if_pos (show nI 20 = (20 : Int32) from rfl)]
    obtain ⟨v1, L1, e1, e2⟩ := opt_1 hru
    cases e2
    replace hl : tra.2 + (L1.length + 1) ≤ 1000 := hl
    exact hF ab 0 dp x σ (ph tra 20) v1 L1 _ hab (by decide) e1 h4 hT (by show tra.2 + 1 + _ ≤ _; omega) hd (fun σ' f t => hQ σ' f t)
  · rw [if_neg (show ¬ nI 30 = (20 : Int32) by decide), if_pos (show nI 30 = (30 : Int32) from rfl)]
    obtain ⟨v1, L1, e1, e2⟩ := opt_1 hru
    cases e2
    replace hl : tra.2 + (L1.length + 1) ≤ 1000 := hl
    exact hF ab 1 dp x σ (ph tra 30) v1 L1 _ hab (by decide) e1 h4 hT (by show tra.2 + 1 + _ ≤ _; omega) hd (fun σ' f t => hQ σ' f t)
  · rw [if_neg (show ¬ nI 40 = (20 : Int32) by decide), if_neg (show ¬ nI 40 = (30 : Int32) by decide), if_pos (show nI 40 = (40 : Int32) from rfl)]
    obtain ⟨v1, L1, e1, e2⟩ := opt_1 hru
    cases e2
    replace hl : tra.2 + (L1.length + 1) ≤ 1000 := hl
    exact hF ab 2 dp x σ (ph tra 40) v1 L1 _ hab (by decide) e1 h4 hT (by show tra.2 + 1 + _ ≤ _; omega) hd (fun σ' f t => hQ σ' f t)
  · rw [if_neg (show ¬ nI 41 = (20 : Int32) by decide), if_neg (show ¬ nI 41 = (30 : Int32) by decide), if_neg (show ¬ nI 41 = (40 : Int32) by decide), if_pos (show nI 41 = (41 : Int32) from rfl)]
    obtain ⟨v1, L1, e1, e2⟩ := opt_1 hru
    cases e2
    replace hl : tra.2 + (L1.length + 1) ≤ 1000 := hl
    exact hF ab 1 dp (x + 1) σ (ph tra 41) v1 L1 _ hab (by decide) e1 h4 hT (by show tra.2 + 1 + _ ≤ _; omega) hd (fun σ' f t => hQ σ' f t)
  · rw [if_neg (show ¬ nI 50 = (20 : Int32) by decide), if_neg (show ¬ nI 50 = (30 : Int32) by decide), if_neg (show ¬ nI 50 = (40 : Int32) by decide), if_neg (show ¬ nI 50 = (41 : Int32) by decide), if_pos (show nI 50 = (50 : Int32) from rfl)]
    obtain ⟨v1, L1, e1, e2⟩ := opt_1 hru
    cases e2
    replace hl : tra.2 + (L1.length + 1) ≤ 1000 := hl
    exact hF ab 3 dp x σ (ph tra 50) v1 L1 _ hab (by decide) e1 h4 hT (by show tra.2 + 1 + _ ≤ _; omega) hd (fun σ' f t => hQ σ' f t)
  · rw [if_neg (show ¬ nI 60 = (20 : Int32) by decide), if_neg (show ¬ nI 60 = (30 : Int32) by decide), if_neg (show ¬ nI 60 = (40 : Int32) by decide), if_neg (show ¬ nI 60 = (41 : Int32) by decide), if_neg (show ¬ nI 60 = (50 : Int32) by decide), if_pos (show nI 60 = (60 : Int32) from rfl)]
    have hru' : (match ru s kd n ab 2 x, ru s kd n kd 0 2 with | some r, some q => some (r.1 - q.1, 60 :: (r.2 ++ q.2)) | _, _ => none) = some (v, L) := hru
    cases e1 : ru s kd n ab 2 x with
    | none => rw [e1] at hru'; exact absurd hru' (by simp)
    | some r =>
      cases e2 : ru s kd n kd 0 2 with
      | none => rw [e1, e2] at hru'; exact absurd hru' (by simp)
      | some q =>
        rw [e1, e2] at hru'
        have e : (r.1 - q.1, 60 :: (r.2 ++ q.2)) = (v, L) := Option.some.inj hru'
        cases e
        rw [List.length_cons, List.length_append] at hl
        refine hF ab 2 dp x σ (ph tra 60) r.1 r.2 _ hab (by decide) e1 h4 hT (by show tra.2 + 1 + _ ≤ _; omega) hd (fun σ1 f t => ?_)
        refine own_x (h4.f f) (hF kd 0 dp 2 σ1 (phs (ph tra 60) r.2) q.1 q.2 _ hk (by decide) e2 (h4.f f) t (by rw [phs_2]; show tra.2 + 1 + _ + _ ≤ _; omega) hd (fun σ2 f2 t2 => ?_))
        refine hQ σ2 (f.trans f2) ?_
        show TX σ2 (phs (ph tra 60) (r.2 ++ q.2))
        rw [phs_app]
        exact t2
  · rw [if_neg (show ¬ nI 61 = (20 : Int32) by decide), if_neg (show ¬ nI 61 = (30 : Int32) by decide), if_neg (show ¬ nI 61 = (40 : Int32) by decide), if_neg (show ¬ nI 61 = (41 : Int32) by decide), if_neg (show ¬ nI 61 = (50 : Int32) by decide), if_neg (show ¬ nI 61 = (60 : Int32) by decide), if_pos (show nI 61 = (61 : Int32) from rfl)]
    obtain ⟨v1, L1, e1, e2⟩ := opt_1 hru
    cases e2
    replace hl : tra.2 + (L1.length + 1) ≤ 1000 := hl
    exact hF ab 3 dp x σ (ph tra 61) v1 L1 _ hab (by decide) e1 h4 hT (by show tra.2 + 1 + _ ≤ _; omega) hd (fun σ' f t => hQ σ' f t)
  · rw [if_neg (show ¬ nI 70 = (20 : Int32) by decide), if_neg (show ¬ nI 70 = (30 : Int32) by decide), if_neg (show ¬ nI 70 = (40 : Int32) by decide), if_neg (show ¬ nI 70 = (41 : Int32) by decide), if_neg (show ¬ nI 70 = (50 : Int32) by decide), if_neg (show ¬ nI 70 = (60 : Int32) by decide), if_neg (show ¬ nI 70 = (61 : Int32) by decide), if_pos (show nI 70 = (70 : Int32) from rfl)]
    obtain ⟨v1, L1, e1, e2⟩ := opt_1 hru
    cases e2
    replace hl : tra.2 + (L1.length + 1) ≤ 1000 := hl
    exact hF ab 0 dp x σ (ph tra 70) v1 L1 _ hab (by decide) e1 h4 hT (by show tra.2 + 1 + _ ≤ _; omega) hd (fun σ' f t => hQ σ' f t)
  · rw [if_neg (show ¬ nI 80 = (20 : Int32) by decide), if_neg (show ¬ nI 80 = (30 : Int32) by decide), if_neg (show ¬ nI 80 = (40 : Int32) by decide), if_neg (show ¬ nI 80 = (41 : Int32) by decide), if_neg (show ¬ nI 80 = (50 : Int32) by decide), if_neg (show ¬ nI 80 = (60 : Int32) by decide), if_neg (show ¬ nI 80 = (61 : Int32) by decide), if_neg (show ¬ nI 80 = (70 : Int32) by decide), if_pos (show nI 80 = (80 : Int32) from rfl)]
    have hru' : (match ru s kd n ab 1 x, ru s kd n kd 2 2 with | some r, some q => some (r.1 + q.1, 80 :: (r.2 ++ q.2)) | _, _ => none) = some (v, L) := hru
    cases e1 : ru s kd n ab 1 x with
    | none => rw [e1] at hru'; exact absurd hru' (by simp)
    | some r =>
      cases e2 : ru s kd n kd 2 2 with
      | none => rw [e1, e2] at hru'; exact absurd hru' (by simp)
      | some q =>
        rw [e1, e2] at hru'
        have e : (r.1 + q.1, 80 :: (r.2 ++ q.2)) = (v, L) := Option.some.inj hru'
        cases e
        rw [List.length_cons, List.length_append] at hl
        refine hF ab 1 dp x σ (ph tra 80) r.1 r.2 _ hab (by decide) e1 h4 hT (by show tra.2 + 1 + _ ≤ _; omega) hd (fun σ1 f t => ?_)
        refine own_x (h4.f f) (hF kd 2 dp 2 σ1 (phs (ph tra 80) r.2) q.1 q.2 _ hk (by decide) e2 (h4.f f) t (by rw [phs_2]; show tra.2 + 1 + _ + _ ≤ _; omega) hd (fun σ2 f2 t2 => ?_))
        refine hQ σ2 (f.trans f2) ?_
        show TX σ2 (phs (ph tra 80) (r.2 ++ q.2))
        rw [phs_app]
        exact t2
  · rw [if_neg (show ¬ nI 81 = (20 : Int32) by decide), if_neg (show ¬ nI 81 = (30 : Int32) by decide), if_neg (show ¬ nI 81 = (40 : Int32) by decide), if_neg (show ¬ nI 81 = (41 : Int32) by decide), if_neg (show ¬ nI 81 = (50 : Int32) by decide), if_neg (show ¬ nI 81 = (60 : Int32) by decide), if_neg (show ¬ nI 81 = (61 : Int32) by decide), if_neg (show ¬ nI 81 = (70 : Int32) by decide), if_neg (show ¬ nI 81 = (80 : Int32) by decide), if_pos (show nI 81 = (81 : Int32) from rfl)]
    obtain ⟨v1, L1, e1, e2⟩ := opt_1 hru
    cases e2
    replace hl : tra.2 + (L1.length + 1) ≤ 1000 := hl
    exact hF ab 0 dp x σ (ph tra 81) v1 L1 _ hab (by decide) e1 h4 hT (by show tra.2 + 1 + _ ≤ _; omega) hd (fun σ' f t => hQ σ' f t)
theorem ru_len {s kd n k a : Nat} {x v : Int32} {L : List Nat} (h : ruB s kd n k a x = some (v, L)) : 0 < L.length := by
  cases L with
  | nil =>
    exfalso
    unfold ruB at h
    split at h
    all_goals first
      | (simp at h; done)
      | (obtain ⟨v1, L1, e1, e2⟩ := opt_1 h; simp at e2; done)
      | (split at h <;> simp at h; done)
  | cons b L => simp
theorem run_ok {b s kd : Nat} : ∀ n, FF (w_X0_run n) b s kd n
  | 0 => fun k a dp x σ tra v L Q _ _ h => absurd h (by unfold ru; simp)
  | n + 1 => fun k a dp x σ tra v L Q hk ha hru h4 hT hl hd hQ => by
    have ih := run_ok (b := b) (s := s) (kd := kd) n
    rw [ru_B] at hru
    have hpos := ru_len hru
    obtain ⟨h1, h2, h3, h5, h6⟩ := hol1 k hk a ha
    obtain ⟨g1, g2, g3, g5, g6⟩ := hol1 (hol k a) h5 a ha
    show w_X0_run_b (w_X0_run n) (nI k) (nI a) x (nI dp) σ Q
    unfold w_X0_run_b
    refine hold_x hk ha ?_
    have e : ((4 : Int32) * nI (hol k a)) + nI a = nI (4 * hol k a + a) := by rw [show (4 : Int32) = nI 4 from rfl, pk_mul, nI_add]
    rw [if_neg (nI_pos (by omega)), if_pos (show nI dp ≤ 40 from nI_le (b := 40) (by omega) (by decide)), e, cl_nI (by omega), g1, bd_eq]
    refine ⟨vp_nI (by omega) (by decide), ?_⟩
    refine ph_x hT (by omega) (fun σ5 hf hT5 => ?_)
    rw [nI_1]
    have h45 := h4.f hf
    have hc := hol2 k hk a ha
    simp only [List.mem_cons, Prod.mk.injEq, List.not_mem_nil, or_false] at hc
    generalize hol k a = hh at *
    have hQ5 : ∀ σ', Fb σ5 σ' → TX σ' (phs tra L) → Q v σ' := fun σ' f t => hQ σ' (hf.trans f) t
    by_cases z : hh = 0
    · rw [z, if_pos nI_0]
      rw [z] at hru hT5
      refine first_x ih ?_ hru h45 hT5 hl (by omega) hQ5
      rcases hc with c | c | c | c | c | c | c | c | c | c | c | c | c | c
      all_goals first
        | (rw [c.2]; decide)
        | (exfalso; omega)
    · rw [if_neg (nI_ne0 (by omega) (by omega)), cl_nI (by omega), (ab1 hh h5 z).1]
      refine ⟨vp_nI h5 (by decide), inh_x ih (ab1 hh h5 z).2 ?_ hru h45 hT5 hl (by omega) hQ5⟩
      rcases hc with c | c | c | c | c | c | c | c | c | c | c | c | c | c
      all_goals first
        | (exfalso; omega)
        | (rw [c.1, c.2]; decide)
