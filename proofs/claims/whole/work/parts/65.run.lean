/-! the class's reader, over lists -/
def opn : List Nat → Nat
  | [] => 0
  | x :: S => opn S + (if x = 33 ∨ x = 95 ∨ x = 40 then 1 else 0)
def brk : List Nat → Nat
  | [] => 0
  | x :: S => brk S + (if x = 40 then 1 else 0)
def flZ (k : Nat) : List Nat → List Int32 → List Nat × List Int32
  | [], C => ([], C)
  | x :: S, C => if k ≤ rk x then flZ k S (C ++ [ngI x]) else (x :: S, C)
def eo : List Nat → List Int32 → List Nat × List Int32
  | [], C => ([], C)
  | x :: S, C => if x = 33 ∨ x = 95 then eo S (C ++ [ngI x]) else (x :: S, C)
def rkH : List Nat → Nat
  | [] => 0
  | x :: _ => rk x
def hd40 : List Nat → Bool
  | [] => false
  | x :: _ => decide (x = 40)
def flv (x : Nat) : Nat := if rk x = 3 then 4 else rk x
abbrev RzZ : Type := Nat ⊕ List Int32
def runZ (n : Nat) (c : Nat → Nat) : Nat → Nat → List Nat → List Int32 → Bool → Bool → Option RzZ
  | 0, _, _, _, _, _ => none
  | f + 1, i, S, C, w, a =>
    if n ≤ i then (if w = true ∨ 0 < brk S then some (.inl n) else some (.inr (flZ 1 S C).2))
    else if w = true then
      (if dgt (c i) = true then runZ n c f (i + (nums c i 4 0 0).1) (eo S (C ++ [nI (nums c i 4 0 0).2])).1 (eo S (C ++ [nI (nums c i 4 0 0).2])).2 false a
      else if nmI (c i) < 6 then runZ n c f (i + 1) (eo S (C ++ [ngI (c i)])).1 (eo S (C ++ [ngI (c i)])).2 false a
      else if c i = 40 ∨ c i = 33 ∨ c i = 45 then (if opn S < 6 then runZ n c f (i + 1) ((if c i = 45 then 95 else c i) :: S) C true a else some (.inl i))
      else some (.inl i))
    else if c i = 41 then (if brk S = 0 then some (.inl i) else if hd40 (flZ 1 S C).1 = true then runZ n c f (i + 1) (eo (flZ 1 S C).1.tail (flZ 1 S C).2).1 (eo (flZ 1 S C).1.tail (flZ 1 S C).2).2 false a else none)
    else if c i = 63 ∨ c i = 59 then (if 0 < brk S ∨ (c i = 63 ∧ a = true) then some (.inl i) else runZ n c f (i + 1) (flZ 1 S C).1 ((flZ 1 S C).2 ++ [ngI (c i)]) true (decide (c i = 63)))
    else if rk (c i) = 0 then some (.inl i)
    else if rk (c i) = 3 ∧ rkH (flZ (flv (c i)) S C).1 = 3 then some (.inl i)
    else runZ n c f (i + 1) (c i :: (flZ (flv (c i)) S C).1) (flZ (flv (c i)) S C).2 true a
def RUN (n : Nat) (c : Nat → Nat) (i : Nat) (S : List Nat) (C : List Int32) (w a : Bool) (res : RzZ) : Prop := ∃ f, runZ n c f i S C w a = some res
/-! a letter's rank and what it isn't -/
theorem rk_lt (x : Nat) : rk x < 6 := by
  unfold rk
  repeat' split
  all_goals omega
theorem rk_ne {x : Nat} (h : 0 < rk x) : x ≠ 33 ∧ x ≠ 95 ∧ x ≠ 40 ∧ x ≠ 41 ∧ x ≠ 63 ∧ x ≠ 59 := by
  refine ⟨?_, ?_, ?_, ?_, ?_, ?_⟩ <;> (rintro rfl; exact absurd h (by decide))
theorem nm_ne {x : Nat} (h : nmI x < 6) : dgt x = false ∧ x ≠ 40 ∧ x ≠ 33 ∧ x ≠ 45 := by
  refine ⟨?_, ?_, ?_, ?_⟩
  · cases g : dgt x
    · rfl
    · have h1 := dgt_iff.mp g
      unfold nmI at h
      rw [if_neg (by omega), if_neg (by omega), if_neg (by omega), if_neg (by omega), if_neg (by omega), if_neg (by omega)] at h
      omega
  · rintro rfl; exact absurd h (by decide)
  · rintro rfl; exact absurd h (by decide)
  · rintro rfl; exact absurd h (by decide)
theorem dg_ne {x : Nat} (h : dgt x = true) : rk x = 0 ∧ x ≠ 41 ∧ x ≠ 63 ∧ x ≠ 59 := by
  have h1 := dgt_iff.mp h
  refine ⟨?_, by omega, by omega, by omega⟩
  unfold rk
  rw [if_neg (by omega), if_neg (by omega), if_neg (by omega), if_neg (by omega), if_neg (by omega), if_neg (by omega), if_neg (by omega), if_neg (by omega), if_neg (by omega), if_neg (by omega)]
/-! what waits -/
def lowS (r : Nat) : List Nat → Prop
  | [] => True
  | x :: _ => x ≠ 33 ∧ x ≠ 95 ∧ rk x < r
theorem lowS_up {r r' : Nat} (h : r ≤ r') : ∀ {S : List Nat}, lowS r S → lowS r' S
  | [], _ => trivial
  | _ :: _, q => ⟨q.1, q.2.1, Nat.lt_of_lt_of_le q.2.2 h⟩
theorem fl_low {k r : Nat} (h : r ≤ k) (C : List Int32) : ∀ {S : List Nat}, lowS r S → flZ k S C = (S, C)
  | [], _ => rfl
  | x :: S, q => by
    unfold flZ
    rw [if_neg (by have := q.2.2; omega)]
theorem eo_low {r : Nat} (C : List Int32) : ∀ {S : List Nat}, lowS r S → eo S C = (S, C)
  | [], _ => rfl
  | x :: S, q => by
    unfold eo
    rw [if_neg (by intro g; rcases g with g | g; exact q.1 g; exact q.2.1 g)]
theorem rkH_low {r : Nat} (hr : 0 < r) : ∀ {S : List Nat}, lowS r S → rkH S < r
  | [], _ => hr
  | _ :: _, q => q.2.2
theorem fl_cons {k x : Nat} {S : List Nat} {C : List Int32} (h : k ≤ rk x) : flZ k (x :: S) C = flZ k S (C ++ [ngI x]) := by
  rw [flZ, if_pos h]
theorem brk_cons {x : Nat} {S : List Nat} (h : x ≠ 40) : brk (x :: S) = brk S := by
  rw [brk, if_neg h]
  rfl
theorem opn_cons {x : Nat} {S : List Nat} (h : 0 < rk x) : opn (x :: S) = opn S := by
  rw [opn, if_neg (by have := rk_ne h; omega)]
  rfl
theorem opn_1 {x : Nat} {S : List Nat} (h : x = 33 ∨ x = 95 ∨ x = 40) : opn (x :: S) = opn S + 1 := by
  rw [opn, if_pos h]
theorem brk_1 {S : List Nat} : brk (40 :: S) = brk S + 1 := by
  rw [brk, if_pos rfl]
/-! the steps -/
theorem R_num {n i : Nat} {c : Nat → Nat} {S : List Nat} {C : List Int32} {a : Bool} {res : RzZ} (hi : i < n) (h : dgt (c i) = true) (K : RUN n c (i + (nums c i 4 0 0).1) (eo S (C ++ [nI (nums c i 4 0 0).2])).1 (eo S (C ++ [nI (nums c i 4 0 0).2])).2 false a res) : RUN n c i S C true a res := by
  obtain ⟨f, hf⟩ := K
  refine ⟨f + 1, ?_⟩
  rw [runZ, if_neg (by omega), if_pos rfl, if_pos h]
  exact hf
theorem R_name {n i : Nat} {c : Nat → Nat} {S : List Nat} {C : List Int32} {a : Bool} {res : RzZ} (hi : i < n) (h : nmI (c i) < 6) (K : RUN n c (i + 1) (eo S (C ++ [ngI (c i)])).1 (eo S (C ++ [ngI (c i)])).2 false a res) : RUN n c i S C true a res := by
  obtain ⟨f, hf⟩ := K
  refine ⟨f + 1, ?_⟩
  rw [runZ, if_neg (by omega), if_pos rfl, if_neg (by rw [(nm_ne h).1]; decide), if_pos h]
  exact hf
theorem R_open {n i : Nat} {c : Nat → Nat} {S : List Nat} {C : List Int32} {a : Bool} {res : RzZ} (hi : i < n) (h : c i = 40 ∨ c i = 33 ∨ c i = 45) (hS : opn S < 6) (K : RUN n c (i + 1) ((if c i = 45 then 95 else c i) :: S) C true a res) : RUN n c i S C true a res := by
  obtain ⟨f, hf⟩ := K
  refine ⟨f + 1, ?_⟩
  have h1 : ¬ nmI (c i) < 6 := fun q => by have := nm_ne q; omega
  have h2 : ¬ dgt (c i) = true := fun q => by have := dgt_iff.mp q; omega
  rw [runZ, if_neg (by omega), if_pos rfl, if_neg h2, if_neg h1, if_pos h, if_pos hS]
  exact hf
/-- no operand begins here -/
theorem R_bad {n i : Nat} {c : Nat → Nat} {S : List Nat} {C : List Int32} {a : Bool} (hi : i ≤ n) (h1 : ¬ dgt (c i) = true) (h2 : ¬ nmI (c i) < 6) (h3 : ¬ (c i = 40 ∨ c i = 33 ∨ c i = 45) ∨ ¬ opn S < 6) : RUN n c i S C true a (.inl i) := by
  refine ⟨1, ?_⟩
  rw [runZ]
  by_cases g : n ≤ i
  · rw [if_pos g, if_pos (Or.inl rfl), show n = i by omega]
  · rw [if_neg g, if_pos rfl, if_neg h1, if_neg h2]
    by_cases g3 : c i = 40 ∨ c i = 33 ∨ c i = 45
    · rw [if_pos g3, if_neg (h3.resolve_left (fun q => q g3))]
    · rw [if_neg g3]
theorem R_close {n i : Nat} {c : Nat → Nat} {S : List Nat} {C : List Int32} {a : Bool} {res : RzZ} (hi : i < n) (h : c i = 41) (K : RUN n c (i + 1) (eo S C).1 (eo S C).2 false a res) : RUN n c i (40 :: S) C false a res := by
  obtain ⟨f, hf⟩ := K
  refine ⟨f + 1, ?_⟩
  have e : flZ 1 (40 :: S) C = (40 :: S, C) := fl_low (r := 1) (Nat.le_refl _) C (S := 40 :: S) ⟨by decide, by decide, by decide⟩
  rw [runZ, if_neg (by omega), if_neg (by decide), if_pos h, if_neg (by rw [brk_1]; omega), e, if_pos (by rfl)]
  exact hf
/-- in a bracket, what is neither its end nor a sign -/
theorem R_stop {n i : Nat} {c : Nat → Nat} {S : List Nat} {C : List Int32} {a : Bool} (hi : i ≤ n) (h1 : c i ≠ 41) (h2 : rk (c i) = 0) (h3 : 0 < brk S ∨ i < n ∧ c i ≠ 63 ∧ c i ≠ 59) : RUN n c i S C false a (.inl i) := by
  refine ⟨1, ?_⟩
  rw [runZ]
  by_cases g : n ≤ i
  · rw [if_pos g, if_pos (Or.inr (by omega)), show n = i by omega]
  · rw [if_neg g, if_neg (by decide), if_neg h1]
    by_cases g2 : c i = 63 ∨ c i = 59
    · rw [if_pos g2, if_pos (Or.inl (by omega))]
    · rw [if_neg g2, if_pos h2]
theorem R_cmp2 {n i x : Nat} {c : Nat → Nat} {S : List Nat} {C : List Int32} {a : Bool} (hi : i < n) (h : rk (c i) = 3) (hx : rk x = 3) : RUN n c i (x :: S) C false a (.inl i) := by
  refine ⟨1, ?_⟩
  have hne := rk_ne (x := c i) (by omega)
  have e : flZ (flv (c i)) (x :: S) C = (x :: S, C) := by
    rw [flZ, if_neg (by unfold flv; rw [if_pos h]; omega)]
  rw [runZ, if_neg (by omega), if_neg (by decide), if_neg hne.2.2.2.1, if_neg (by omega), if_neg (by omega), e, if_pos ⟨h, hx⟩]
theorem R_bin {n i : Nat} {c : Nat → Nat} {S S' : List Nat} {C C' : List Int32} {a : Bool} {res : RzZ} (hi : i < n) (h : 0 < rk (c i)) (e : flZ (flv (c i)) S C = (S', C')) (hc : rk (c i) = 3 → rkH S' ≠ 3) (K : RUN n c (i + 1) (c i :: S') C' true a res) : RUN n c i S C false a res := by
  obtain ⟨f, hf⟩ := K
  refine ⟨f + 1, ?_⟩
  have hne := rk_ne h
  rw [runZ, if_neg (by omega), if_neg (by decide), if_neg hne.2.2.2.1, if_neg (by omega), if_neg (by omega), e, if_neg (fun q => hc q.1 q.2)]
  exact hf
theorem R_sim {n j K : Nat} {c : Nat → Nat} {S1 S2 : List Nat} {C1 C2 : List Int32} {a : Bool} {res : RzZ} (h1 : 1 ≤ K) (h2 : flv (c j) ≤ K) (hE : ∀ k, 1 ≤ k → k ≤ K → flZ k S1 C1 = flZ k S2 C2) (hb : brk S1 = brk S2) (h : RUN n c j S2 C2 false a res) : RUN n c j S1 C1 false a res := by
  obtain ⟨f, hf⟩ := h
  refine ⟨f, ?_⟩
  cases f with
  | zero => exact hf
  | succ f =>
    rw [runZ] at hf ⊢
    rw [hb, hE 1 (Nat.le_refl _) h1]
    by_cases g1 : n ≤ j
    · rw [if_pos g1] at hf ⊢; exact hf
    rw [if_neg g1, if_neg (by decide)] at hf ⊢
    by_cases g2 : c j = 41
    · rw [if_pos g2] at hf ⊢; exact hf
    rw [if_neg g2] at hf ⊢
    by_cases g3 : c j = 63 ∨ c j = 59
    · rw [if_pos g3] at hf ⊢; exact hf
    rw [if_neg g3] at hf ⊢
    by_cases g4 : rk (c j) = 0
    · rw [if_pos g4] at hf ⊢; exact hf
    rw [if_neg g4] at hf ⊢
    rw [hE (flv (c j)) (by unfold flv; split <;> omega) h2]
    exact hf
/-! the levels -/
def aft (n : Nat) (c : Nat → Nat) (r : Nat) (S : List Nat) (C : List Int32) (a : Bool) (res : RzZ) (j : Nat) : Prop := if r ≤ 3 ∧ rk (c j) = 3 then res = .inl j else RUN n c j S C false a res
def LV (n : Nat) (c : Nat → Nat) (r d : Nat) (P : Nat → (Nat ⊕ (Nat × TreeZ))) : Prop :=
  ∀ i, i ≤ n → (∀ j e, P i = .inr (j, e) → rk (c j) < r ∨ r ≤ 3 ∧ rk (c j) = 3) ∧ ∀ (S : List Nat) (C : List Int32) (a : Bool) (res : RzZ), lowS r S → opn S = d → (∀ x, P i = .inl x → res = .inl x) → (∀ j e, P i = .inr (j, e) → aft n c r S (C ++ postZ e) a res j) → RUN n c i S C true a res
theorem lp_LV {n r d : Nat} {c : Nat → Nat} {F : Nat → (Nat ⊕ (Nat × TreeZ))} (ht : txtZ n c) (hr : 0 < r) (hr3 : r ≠ 3) (hF : LV n c (r + 1) d F) (hG : ∀ i, i ≤ n → gd n i (F i)) : ∀ (m j : Nat) (A : TreeZ), n < j + m → j ≤ n → rk (c j) < r + 1 ∨ r + 1 ≤ 3 ∧ rk (c j) = 3 →
    (∀ j' e, lpP c r F m j A = .inr (j', e) → rk (c j') < r ∨ r ≤ 3 ∧ rk (c j') = 3) ∧
    ∀ (S S1 : List Nat) (C C1 : List Int32) (a : Bool) (res : RzZ), lowS r S → opn S = d → (∀ k, 1 ≤ k → k ≤ r → flZ k S1 C1 = flZ k S (C ++ postZ A)) → brk S1 = brk S →
      (∀ x, lpP c r F m j A = .inl x → res = .inl x) → (∀ j' e, lpP c r F m j A = .inr (j', e) → aft n c r S (C ++ postZ e) a res j') → aft n c (r + 1) S1 C1 a res j
  | 0, j, A, h1, h2, _ => by omega
  | m + 1, j, A, h1, h2, h3 => by
    unfold lpP
    by_cases g : rk (c j) = r
    · rw [if_pos g]
      have hj := in_n ht (rk_pos (c := c j) (by omega))
      have q := hF (j + 1) (by omega)
      have qg := hG (j + 1) (by omega)
      have hne := rk_ne (x := c j) (by omega)
      have hfv : flv (c j) = r := by unfold flv; rw [if_neg (by omega), g]
      have hlow : ∀ S, lowS (r + 1) (c j :: S) := fun S => ⟨hne.1, hne.2.1, by omega⟩
      have hop : ∀ S, opn (c j :: S) = opn S := fun S => opn_cons (by omega)
      have hstep : ∀ (S S1 : List Nat) (C C1 : List Int32) (a : Bool) (res : RzZ), lowS r S → (∀ k, 1 ≤ k → k ≤ r → flZ k S1 C1 = flZ k S (C ++ postZ A)) → RUN n c (j + 1) (c j :: S) (C ++ postZ A) true a res → aft n c (r + 1) S1 C1 a res j := by
        intro S S1 C C1 a res hS hE K
        unfold aft
        rw [if_neg (by omega)]
        refine R_bin (S' := S) (C' := C ++ postZ A) hj (by omega) ?_ (fun q => by omega) K
        rw [hfv, hE r hr (Nat.le_refl _), fl_low (Nat.le_refl _) _ hS]
      cases e : F (j + 1) with
      | inl x =>
        dsimp only
        refine ⟨fun j' e' h => (by cases h), fun S S1 C C1 a res hS ho hE hb k1 k2 => hstep S S1 C C1 a res hS hE ?_⟩
        exact q.2 _ _ a res (hlow S) ((hop S).trans ho) (fun x' hx' => k1 x' (by rw [e] at hx'; cases hx'; rfl)) (fun j' e' h => by rw [e] at h; cases h)
      | inr jj =>
        obtain ⟨k, B⟩ := jj
        rw [e] at qg
        obtain ⟨q1, q2, q3, q4⟩ := qg
        have ih := lp_LV ht hr hr3 hF hG m k (eB (c j) A B) (by omega) q2 (q.1 k B e)
        dsimp only
        refine ⟨ih.1, fun S S1 C C1 a res hS ho hE hb k1 k2 => hstep S S1 C C1 a res hS hE ?_⟩
        refine q.2 _ _ a res (hlow S) ((hop S).trans ho) (fun x' hx' => by rw [e] at hx'; cases hx') (fun j' e' h => ?_)
        rw [e] at h
        cases h
        refine ih.2 S (c j :: S) C (C ++ postZ A ++ postZ B) a res hS ho (fun k' _ hk' => ?_) (brk_cons hne.2.2.1) k1 k2
        rw [fl_cons (by omega), post_B, List.append_assoc, List.append_assoc, List.append_assoc]
    · rw [if_neg g]
      refine ⟨fun j' e' h => ?_, fun S S1 C C1 a res hS ho hE hb k1 k2 => ?_⟩
      · cases h
        omega
      · have k := k2 j A rfl
        unfold aft at k ⊢
        by_cases g3 : r ≤ 3 ∧ rk (c j) = 3
        · rw [if_pos g3] at k
          rw [if_pos (by omega)]
          exact k
        · rw [if_neg g3] at k
          rw [if_neg (by omega)]
          exact R_sim hr (by unfold flv; split <;> omega) hE hb k
theorem ch_LV {n r d : Nat} {c : Nat → Nat} {F : Nat → (Nat ⊕ (Nat × TreeZ))} (ht : txtZ n c) (hr : 0 < r) (hr3 : r ≠ 3) (hF : LV n c (r + 1) d F) (hG : ∀ i, i ≤ n → gd n i (F i)) : LV n c r d (chP c r F) := by
  intro i hi
  have q := hF i hi
  have qg := hG i hi
  have hn := ht.1
  unfold chP
  cases e : F i with
  | inl x =>
    dsimp only
    refine ⟨fun j' e' h => (by cases h), fun S C a res hS ho k1 k2 => ?_⟩
    exact q.2 S C a res (lowS_up (by omega) hS) ho (fun x' hx' => k1 x' (by rw [e] at hx'; cases hx'; rfl)) (fun j' e' h => by rw [e] at h; cases h)
  | inr jj =>
    obtain ⟨j, A⟩ := jj
    rw [e] at qg
    obtain ⟨q1, q2, q3, q4⟩ := qg
    have ih := lp_LV ht hr hr3 hF hG 121 j A (by omega) q2 (q.1 j A e)
    dsimp only
    refine ⟨ih.1, fun S C a res hS ho k1 k2 => ?_⟩
    refine q.2 S C a res (lowS_up (by omega) hS) ho (fun x' hx' => by rw [e] at hx'; cases hx') (fun j' e' h => ?_)
    rw [e] at h
    cases h
    exact ih.2 S S C _ a res hS ho (fun _ _ _ => rfl) rfl k1 k2
theorem cm_LV {n d : Nat} {c : Nat → Nat} {F : Nat → (Nat ⊕ (Nat × TreeZ))} (ht : txtZ n c) (hF : LV n c 4 d F) (hG : ∀ i, i ≤ n → gd n i (F i)) : LV n c 3 d (cmP c F) := by
  intro i hi
  have q := hF i hi
  have qg := hG i hi
  unfold cmP
  cases e : F i with
  | inl x =>
    dsimp only
    refine ⟨fun j' e' h => (by cases h), fun S C a res hS ho k1 k2 => ?_⟩
    exact q.2 S C a res (lowS_up (by omega) hS) ho (fun x' hx' => k1 x' (by rw [e] at hx'; cases hx'; rfl)) (fun j' e' h => by rw [e] at h; cases h)
  | inr jj =>
    obtain ⟨j, A⟩ := jj
    rw [e] at qg
    obtain ⟨q1, q2, q3, q4⟩ := qg
    have hrj := q.1 j A e
    dsimp only
    by_cases g : rk (c j) = 3
    · rw [if_pos g]
      have hj := in_n ht (rk_pos (c := c j) (by omega))
      have q' := hF (j + 1) (by omega)
      have qg' := hG (j + 1) (by omega)
      have hne := rk_ne (x := c j) (by omega)
      have hfv : flv (c j) = 4 := by unfold flv; rw [if_pos g]
      have hstep : ∀ (S : List Nat) (C : List Int32) (a : Bool) (res : RzZ), lowS 3 S → opn S = d → RUN n c (j + 1) (c j :: S) (C ++ postZ A) true a res → RUN n c i S C true a res := by
        intro S C a res hS ho K
        refine q.2 S C a res (lowS_up (by omega) hS) ho (fun x' hx' => by rw [e] at hx'; cases hx') (fun j' e' h => ?_)
        rw [e] at h
        cases h
        unfold aft
        rw [if_neg (by omega)]
        refine R_bin (S' := S) (C' := C ++ postZ A) hj (by omega) ?_ (fun _ q => ?_) K
        · rw [hfv, fl_low (r := 3) (by omega) _ hS]
        · have := rkH_low (r := 3) (by omega) hS
          omega
      cases e' : F (j + 1) with
      | inl x =>
        dsimp only
        refine ⟨fun j' e' h => (by cases h), fun S C a res hS ho k1 k2 => hstep S C a res hS ho ?_⟩
        exact q'.2 _ _ a res ⟨hne.1, hne.2.1, by omega⟩ ((opn_cons (by omega)).trans ho) (fun x' hx' => k1 x' (by rw [e'] at hx'; cases hx'; rfl)) (fun j' e2 h => by rw [e'] at h; cases h)
      | inr jj =>
        obtain ⟨k, B⟩ := jj
        rw [e'] at qg'
        obtain ⟨r1, r2, r3, r4⟩ := qg'
        have hrk := q'.1 k B e'
        dsimp only
        refine ⟨fun j' e2 h => (by cases h; omega), fun S C a res hS ho k1 k2 => hstep S C a res hS ho ?_⟩
        refine q'.2 _ _ a res ⟨hne.1, hne.2.1, by omega⟩ ((opn_cons (by omega)).trans ho) (fun x' hx' => by rw [e'] at hx'; cases hx') (fun j' e2 h => ?_)
        rw [e'] at h
        cases h
        have kk := k2 k _ rfl
        unfold aft at kk ⊢
        rw [if_neg (by omega)]
        by_cases g3 : rk (c k) = 3
        · rw [if_pos ⟨Nat.le_refl _, g3⟩] at kk
          rw [kk]
          exact R_cmp2 (in_n ht (rk_pos (by omega))) g3 g
        · rw [if_neg (fun q => g3 q.2)] at kk
          refine R_sim (K := 3) (by omega) (by unfold flv; rw [if_neg g3]; omega) (fun k' _ hk' => ?_) (brk_cons hne.2.2.1) kk
          rw [fl_cons (by omega), post_B, List.append_assoc, List.append_assoc, List.append_assoc]
    · rw [if_neg g]
      refine ⟨fun j' e' h => (by cases h; omega), fun S C a res hS ho k1 k2 => ?_⟩
      refine q.2 S C a res (lowS_up (by omega) hS) ho (fun x' hx' => by rw [e] at hx'; cases hx') (fun j' e' h => ?_)
      rw [e] at h
      cases h
      have kk := k2 j A rfl
      unfold aft at kk ⊢
      rw [if_neg (fun q => g q.2)] at kk
      rw [if_neg (by omega)]
      exact kk
theorem ei_LV {n d : Nat} {c : Nat → Nat} {F : Nat → (Nat ⊕ (Nat × TreeZ))} (ht : txtZ n c) (hF : LV n c 6 d F) (hG : ∀ i, i ≤ n → gd n i (F i)) : LV n c 1 d (eiP c F) := by
  have h5 := ch_LV (r := 5) ht (by omega) (by omega) hF hG
  have g5 := ch_gd (r := 5) ht (by omega) hG
  have h4 := ch_LV (r := 4) ht (by omega) (by omega) h5 g5
  have g4 := ch_gd (r := 4) ht (by omega) g5
  have h3 := cm_LV ht h4 g4
  have g3 := cm_gd ht g4
  have h2 := ch_LV (r := 2) ht (by omega) (by omega) h3 g3
  have g2 := ch_gd (r := 2) ht (by omega) g3
  exact ch_LV (r := 1) ht (by omega) (by omega) h2 g2
def OPL (n : Nat) (c : Nat → Nat) (d : Nat) (P : Nat → (Nat ⊕ (Nat × TreeZ))) : Prop :=
  ∀ i, i ≤ n → ∀ (S : List Nat) (C : List Int32) (a : Bool) (res : RzZ), opn S = d → (∀ x, P i = .inl x → res = .inl x) → (∀ j e, P i = .inr (j, e) → RUN n c j (eo S (C ++ postZ e)).1 (eo S (C ++ postZ e)).2 false a res) → RUN n c i S C true a res
theorem OPL_LV {n d : Nat} {c : Nat → Nat} {P : Nat → (Nat ⊕ (Nat × TreeZ))} (h : OPL n c d P) : LV n c 6 d P := by
  intro i hi
  refine ⟨fun j e _ => Or.inl (rk_lt _), fun S C a res hS ho k1 k2 => h i hi S C a res ho k1 (fun j e he => ?_)⟩
  have k := k2 j e he
  unfold aft at k
  rw [if_neg (by omega)] at k
  rw [eo_low _ hS]
  exact k
theorem nums_0 {c : Nat → Nat} {i : Nat} (h : ¬ dgt (c i) = true) : nums c i 4 0 0 = (0, 0) := by
  rw [nums, if_neg (by simpa using h)]
theorem nums_1 {n : Nat} {c : Nat → Nat} {i : Nat} (ht : txtZ n c) (h : dgt (c i) = true) : 0 < (nums c i 4 0 0).1 := by
  have hj := in_n ht (dgt_pos h)
  rw [nums, if_pos (by simpa using h)]
  have := (nums_gd (i := i) ht 3 1 (10 * 0 + c (i + 0) - 48) (by omega) (by have := dgt_iff.mp h; simp only [Nat.add_zero]; omega)).1
  simp only [Nat.mul_zero, Nat.zero_add, Nat.add_zero] at this ⊢
  omega
theorem op_OPL {n : Nat} {c : Nat → Nat} (ht : txtZ n c) : ∀ (m d : Nat), d ≤ 6 → 7 ≤ m + d → OPL n c d (opP c m d)
  | 0, d, h1, h2 => by omega
  | m + 1, d, h1, h2 => by
    intro i hi S C a res ho k1 k2
    unfold opP at k1 k2
    by_cases g1 : nmI (c i) < 6
    · rw [if_pos g1] at k1 k2
      have hj := in_n ht (nm_pos g1)
      exact R_name hj g1 (k2 _ _ rfl)
    · rw [if_neg g1] at k1 k2
      by_cases g2 : c i = 33 ∨ c i = 45
      · rw [if_pos g2] at k1 k2
        have hj := in_n ht (show 0 < c i by omega)
        have hd : ¬ dgt (c i) = true := fun q => by have := dgt_iff.mp q; omega
        by_cases g3 : d = 6
        · rw [if_pos g3] at k1
          rw [k1 i rfl]
          exact R_bad hi hd g1 (Or.inr (by omega))
        · rw [if_neg g3] at k1 k2
          have ih := op_OPL ht m (d + 1) (by omega) (by omega) (i + 1) (by omega)
          have hu : (if c i = 45 then 95 else c i) = (if c i = 33 then 33 else 95) := by
            rcases g2 with g | g
            · rw [g]; rfl
            · rw [g]; rfl
          refine R_open hj (by omega) (by omega) ?_
          rw [hu]
          refine ih _ C a res ?_ (fun x hx => ?_) (fun j e he => ?_)
          · rw [opn_1 (by split <;> omega), ho]
          · rw [hx] at k1
            exact k1 x rfl
          · rw [he] at k2
            have k := k2 _ _ rfl
            rw [post_U, ← List.append_assoc] at k
            rw [eo, if_pos (by split <;> omega)]
            exact k
      · rw [if_neg g2] at k1 k2
        by_cases g4 : c i = 40
        · rw [if_pos g4] at k1 k2
          have hj := in_n ht (show 0 < c i by omega)
          have hd : ¬ dgt (c i) = true := fun q => by have := dgt_iff.mp q; omega
          by_cases g3 : d = 6
          · rw [if_pos g3] at k1
            rw [k1 i rfl]
            exact R_bad hi hd g1 (Or.inr (by omega))
          · rw [if_neg g3] at k1 k2
            have ih := ei_LV ht (OPL_LV (op_OPL ht m (d + 1) (by omega) (by omega))) (fun i hi => op_gd ht m (d + 1) i hi)
            have ig := ei_gd ht (fun i hi => op_gd ht m (d + 1) i hi) (i + 1) (by omega)
            have q := ih (i + 1) (by omega)
            refine R_open hj (by omega) (by omega) ?_
            rw [if_neg (by omega), g4]
            refine q.2 (40 :: S) C a res ⟨by decide, by decide, by decide⟩ (by rw [opn_1 (by omega), ho]) (fun x hx => ?_) (fun j e he => ?_)
            · rw [hx] at k1
              exact k1 x rfl
            · rw [he] at k1 k2 ig
              obtain ⟨p1, p2, p3, p4⟩ := ig
              have hr := q.1 j e he
              dsimp only at k1 k2
              unfold aft
              by_cases g5 : c j = 41
              · rw [if_pos g5] at k2
                have hj' := in_n ht (show 0 < c j by omega)
                rw [if_neg (by rw [g5]; decide)]
                exact R_close hj' g5 (k2 _ _ rfl)
              · rw [if_neg g5] at k1
                have hres := k1 j rfl
                by_cases g6 : rk (c j) = 3
                · rw [if_pos (by omega)]
                  exact hres
                · rw [if_neg (by omega), hres]
                  exact R_stop p2 g5 (by omega) (Or.inl (by rw [brk_1]; omega))
        · rw [if_neg g4] at k1 k2
          unfold numP at k1 k2
          by_cases g5 : dgt (c i) = true
          · have hj := in_n ht (dgt_pos g5)
            have hp := nums_1 ht g5
            rw [if_neg (by omega)] at k1 k2
            refine R_num hj g5 ?_
            by_cases g6 : dgt (c (i + (nums c i 4 0 0).1)) = true
            · rw [if_pos g6] at k1
              rw [k1 _ rfl]
              have hj' := in_n ht (dgt_pos g6)
              have hne := dg_ne g6
              exact R_stop (by omega) hne.2.1 hne.1 (Or.inr ⟨hj', hne.2.2.1, hne.2.2.2⟩)
            · rw [if_neg g6] at k2
              exact k2 _ _ rfl
          · rw [nums_0 g5] at k1
            rw [if_pos rfl] at k1
            rw [k1 i rfl]
            exact R_bad hi g5 g1 (Or.inl (by omega))
/-! lines, texts -/
def cd : Option TreeZ × TreeZ → List Int32
  | (none, a) => postZ a
  | (some t, a) => postZ t ++ [ngI 63] ++ postZ a
def cdsZ : List (Option TreeZ × TreeZ) → List Int32
  | [] => []
  | l :: [] => cd l
  | l :: l' :: ls => cd l ++ ngI 59 :: cdsZ (l' :: ls)
theorem R_line {n j : Nat} {c : Nat → Nat} {C : List Int32} {a : Bool} {res : RzZ} (hj : j ≤ n) (h0 : rk (c j) = 0) (ha : c j = 63 → a = true) (h1 : c j = 59 → j < n → RUN n c (j + 1) [] (C ++ [ngI 59]) true false res) (h2 : c j ≠ 59 → j < n → res = .inl j) (h3 : ¬ j < n → res = .inr C) : RUN n c j [] C false a res := by
  by_cases g : j < n
  · by_cases g1 : c j = 59
    · obtain ⟨f, hf⟩ := h1 g1 g
      refine ⟨f + 1, ?_⟩
      rw [runZ, if_neg (by omega), if_neg (by decide), if_neg (by omega), if_pos (Or.inr g1), if_neg (by rw [g1]; intro q; rcases q with q | q; exact absurd q (by decide); exact absurd q.1 (by decide)), g1]
      exact hf
    · refine ⟨1, ?_⟩
      rw [h2 g1 g, runZ, if_neg (by omega), if_neg (by decide)]
      by_cases g2 : c j = 41
      · rw [if_pos g2, if_pos (show brk [] = 0 from rfl)]
      · rw [if_neg g2]
        by_cases g3 : c j = 63
        · rw [if_pos (Or.inl g3), if_pos (Or.inr ⟨g3, ha g3⟩)]
        · rw [if_neg (by omega), if_pos h0]
  · refine ⟨1, ?_⟩
    rw [h3 g, runZ, if_pos (by omega), if_neg (by intro q; rcases q with q | q; exact absurd q (by decide); exact absurd q (by decide))]
    rfl
theorem tx_ne {n : Nat} {c : Nat → Nat} : ∀ (m i k : Nat) (ls : List (Option TreeZ × TreeZ)), txP n c m i = .inr (k, ls) → ∃ l ls', ls = l :: ls'
  | 0, i, k, ls, h => by cases h
  | m + 1, i, k, ls, h => by
    unfold txP at h
    cases e : lnP c i with
    | inl f => rw [e] at h; cases h
    | inr jj =>
      obtain ⟨j, l⟩ := jj
      rw [e] at h
      dsimp only at h
      by_cases g : c j = 59
      · rw [if_pos g] at h
        cases e2 : txP n c m (j + 1) with
        | inl f => rw [e2] at h; cases h
        | inr kk =>
          obtain ⟨k', ls'⟩ := kk
          rw [e2] at h
          cases h
          exact ⟨l, ls', rfl⟩
      · rw [if_neg g] at h
        by_cases g2 : j < n
        · rw [if_pos g2] at h; cases h
        · rw [if_neg g2] at h
          cases h
          exact ⟨l, [], rfl⟩
theorem tx_RUN {n : Nat} {c : Nat → Nat} (ht : txtZ n c) : ∀ (m i : Nat) (C : List Int32) (res : RzZ), n < i + m → i ≤ n → (∀ x, txP n c m i = .inl x → res = .inl x) → (∀ k ls, txP n c m i = .inr (k, ls) → res = .inr (C ++ cdsZ ls)) → RUN n c i [] C true false res
  | 0, i, C, res, h1, h2, _, _ => by omega
  | m + 1, i, C, res, h1, h2, k1, k2 => by
    have hL := ei_LV ht (OPL_LV (op_OPL ht 8 0 (by omega) (by omega))) (fun i hi => op_gd ht 8 0 i hi)
    have hG := ei_gd ht (fun i hi => op_gd ht 8 0 i hi)
    have q := hL i h2
    have qg := hG i h2
    unfold txP lnP at k1 k2
    refine q.2 [] C false res trivial rfl (fun x hx => ?_) (fun j t hj => ?_)
    · rw [hx] at k1
      exact k1 x rfl
    · rw [hj] at k1 k2 qg
      obtain ⟨p1, p2, p3, p4⟩ := qg
      have hr := q.1 j t hj
      dsimp only at k1 k2
      have fin : ∀ (j' : Nat) (l : Option TreeZ × TreeZ) (a : Bool), i < j' → j' ≤ n → (rk (c j') < 1 ∨ (1 ≤ 3 ∧ rk (c j') = 3)) → (c j' = 63 → rk (c j') ≠ 3 → a = true) →
          (∀ x, (if c j' = 59 then (match txP n c m (j' + 1) with | .inl f => .inl f | .inr (k, ls) => .inr (k, l :: ls)) else if j' < n then .inl j' else .inr (j', [l]) : Nat ⊕ (Nat × List (Option TreeZ × TreeZ))) = .inl x → res = .inl x) →
          (∀ k ls, (if c j' = 59 then (match txP n c m (j' + 1) with | .inl f => .inl f | .inr (k, ls) => .inr (k, l :: ls)) else if j' < n then .inl j' else .inr (j', [l]) : Nat ⊕ (Nat × List (Option TreeZ × TreeZ))) = .inr (k, ls) → res = .inr (C ++ cdsZ ls)) →
          aft n c 1 [] (C ++ cd l) a res j' := by
        intro j' l a w1 w2 w3 w4 z1 z2
        unfold aft
        by_cases g : rk (c j') = 3
        · have hne := rk_ne (x := c j') (by omega)
          have hjn := in_n ht (rk_pos (c := c j') (by omega))
          rw [if_pos ⟨by omega, g⟩]
          exact z1 j' (by rw [if_neg hne.2.2.2.2.2, if_pos hjn])
        · rw [if_neg (fun q => g q.2)]
          refine R_line w2 (by omega) (fun h => w4 h g) (fun g1 g2 => ?_) (fun g1 g2 => ?_) (fun g2 => ?_)
          · rw [if_pos g1] at z1 z2
            refine tx_RUN ht m (j' + 1) _ res (by omega) (by omega) (fun x hx => ?_) (fun k ls hk => ?_)
            · rw [hx] at z1
              exact z1 x rfl
            · rw [hk] at z2
              rw [z2 _ _ rfl]
              obtain ⟨l', ls', rfl⟩ := tx_ne _ _ _ _ hk
              rw [cdsZ, List.append_assoc, List.append_assoc]
              rfl
          · exact z1 j' (by rw [if_neg g1, if_pos g2])
          · have hc0 : c j' = 0 := ht.2 j' (by omega)
            rw [z2 j' [l] (by rw [if_neg (by omega), if_neg g2])]
            rfl
      by_cases g : c j = 63
      · rw [if_pos g] at k1 k2
        have hjn := in_n ht (show 0 < c j by omega)
        unfold aft
        rw [if_neg (by rw [g]; decide)]
        have q' := hL (j + 1) (by omega)
        have qg' := hG (j + 1) (by omega)
        have step : RUN n c (j + 1) [] (C ++ postZ t ++ [ngI 63]) true true res → RUN n c j [] (C ++ postZ t) false false res := by
          rintro ⟨f, hf⟩
          refine ⟨f + 1, ?_⟩
          rw [runZ, if_neg (by omega), if_neg (by decide), if_neg (by omega), if_pos (Or.inl g), if_neg (by intro q; rcases q with q | q; exact absurd q (by decide); exact absurd q.2 (by decide)), g]
          exact hf
        refine step (q'.2 [] _ true res trivial rfl (fun x hx => ?_) (fun k a' hk => ?_))
        · rw [hx] at k1
          exact k1 x rfl
        · rw [hk] at k1 k2 qg'
          obtain ⟨s1, s2, s3, s4⟩ := qg'
          have := fin k (some t, a') true (by omega) s2 (q'.1 k a' hk) (fun _ _ => rfl) k1 k2
          rw [show C ++ cd (some t, a') = C ++ postZ t ++ [ngI 63] ++ postZ a' from by show C ++ (postZ t ++ [ngI 63] ++ postZ a') = _; rw [List.append_assoc, List.append_assoc, List.append_assoc]] at this
          exact this
      · rw [if_neg g] at k1 k2
        exact fin j (none, t) false (by omega) p2 hr (fun h => absurd h g) k1 k2
