/-! the law's text: trees, and a reader of them -/
def rk (c : Nat) : Nat := if c = 37 then 5 else if c = 38 then 2 else if c = 42 then 5 else if c = 43 then 4 else if c = 45 then 4 else if c = 47 then 5 else if c = 60 then 3 else if c = 61 then 3 else if c = 62 then 3 else if c = 124 then 1 else 0
def nmI (c : Nat) : Nat := if c = 100 then 3 else if c = 104 then 2 else if c = 107 then 4 else if c = 112 then 5 else if c = 115 then 1 else if c = 119 then 0 else 6
def dgt (c : Nat) : Bool := decide (48 ≤ c ∧ c ≤ 57)
theorem dgt_iff {c : Nat} : dgt c = true ↔ 48 ≤ c ∧ c ≤ 57 := decide_eq_true_iff
def ngI (c : Nat) : Int32 := -nI c
/-- what a sign makes of two, of one -/
def jnd (c : Nat) (a b : Int32) : Int32 := if c = 37 then (if b = 0 then 0 else a - a / b * b) else if c = 38 then (if a = 0 then 0 else if b = 0 then 0 else 1) else if c = 42 then a * b else if c = 43 then a + b else if c = 45 then a - b else if c = 47 then (if b = 0 then 0 else a / b) else if c = 60 then (if b ≤ a then 0 else 1) else if c = 61 then (if a = b then 1 else 0) else if c = 62 then (if a ≤ b then 0 else 1) else (if a = 0 then (if b = 0 then 0 else 1) else 1)
def unv (c : Nat) (a : Int32) : Int32 := if c = 33 then (if a = 0 then 1 else 0) else -a
/-- a reading: its steps (the class's sign, the reference's step and what is with it), and what it gives -/
def TreeZ : Type := List (Int32 × Int32 × Int32) × ((Nat → Int32) → Int32)
def eNz (v : Nat) : TreeZ := ([(nI v, 1, nI v)], fun _ => nI v)
def eAz (c : Nat) : TreeZ := ([(ngI c, 2, nI (nmI c))], fun w => w (nmI c))
def eU (c : Nat) (e : TreeZ) : TreeZ := (e.1 ++ [(ngI c, if c = 33 then 3 else 4, 0)], fun w => unv c (e.2 w))
def eB (c : Nat) (a b : TreeZ) : TreeZ := (a.1 ++ b.1 ++ [(ngI c, nI c, 0)], fun w => jnd c (a.2 w) (b.2 w))
def wf (e : TreeZ) : Prop := ∀ P : TreeZ → Prop, (∀ v, v ≤ 9999 → P (eNz v)) → (∀ c, nmI c < 6 → P (eAz c)) → (∀ c e, c = 33 ∨ c = 95 → P e → P (eU c e)) → (∀ c a b, 0 < rk c → P a → P b → P (eB c a b)) → P e
theorem wf_N {v : Nat} (h : v ≤ 9999) : wf (eNz v) := fun P h1 _ _ _ => h1 v h
theorem wf_A {c : Nat} (h : nmI c < 6) : wf (eAz c) := fun P _ h2 _ _ => h2 c h
theorem wf_U {c : Nat} {e : TreeZ} (h : c = 33 ∨ c = 95) (he : wf e) : wf (eU c e) := fun P h1 h2 h3 h4 => h3 c e h (he P h1 h2 h3 h4)
theorem wf_B {c : Nat} {a b : TreeZ} (h : 0 < rk c) (ha : wf a) (hb : wf b) : wf (eB c a b) := fun P h1 h2 h3 h4 => h4 c a b h (ha P h1 h2 h3 h4) (hb P h1 h2 h3 h4)
def szZ (e : TreeZ) : Nat := e.1.length
def postZ (e : TreeZ) : List Int32 := e.1.map (fun x => x.1)
def acts (e : TreeZ) : List Int32 := e.1.map (fun x => x.2.1)
def wits (e : TreeZ) : List Int32 := e.1.map (fun x => x.2.2)
theorem sz_U {c : Nat} {e : TreeZ} : szZ (eU c e) = szZ e + 1 := by unfold szZ eU; rw [List.length_append]; rfl
theorem sz_B {c : Nat} {a b : TreeZ} : szZ (eB c a b) = szZ a + szZ b + 1 := by unfold szZ eB; rw [List.length_append, List.length_append]; rfl
theorem sz_post (e : TreeZ) : (postZ e).length = szZ e := List.length_map _
theorem sz_acts (e : TreeZ) : (acts e).length = szZ e := List.length_map _
theorem sz_wits (e : TreeZ) : (wits e).length = szZ e := List.length_map _
theorem post_U {c : Nat} {e : TreeZ} : postZ (eU c e) = postZ e ++ [ngI c] := by unfold postZ eU; rw [List.map_append]; rfl
theorem post_B {c : Nat} {a b : TreeZ} : postZ (eB c a b) = postZ a ++ postZ b ++ [ngI c] := by unfold postZ eB; rw [List.map_append, List.map_append]; rfl
theorem acts_U {c : Nat} {e : TreeZ} : acts (eU c e) = acts e ++ [if c = 33 then 3 else 4] := by unfold acts eU; rw [List.map_append]; rfl
theorem acts_B {c : Nat} {a b : TreeZ} : acts (eB c a b) = acts a ++ acts b ++ [nI c] := by unfold acts eB; rw [List.map_append, List.map_append]; rfl
theorem wits_U {c : Nat} {e : TreeZ} : wits (eU c e) = wits e ++ [0] := by unfold wits eU; rw [List.map_append]; rfl
theorem wits_B {c : Nat} {a b : TreeZ} : wits (eB c a b) = wits a ++ wits b ++ [0] := by unfold wits eB; rw [List.map_append, List.map_append]; rfl
theorem sz_pos {e : TreeZ} (h : wf e) : 1 ≤ szZ e := by
  refine h (fun e => 1 ≤ szZ e) (fun _ _ => Nat.le_refl 1) (fun _ _ => Nat.le_refl 1) (fun c e _ _ => ?_) (fun c a b _ _ _ => ?_)
  · rw [sz_U]; omega
  · rw [sz_B]; omega
def nums (c : Nat → Nat) (i : Nat) : Nat → Nat → Nat → Nat × Nat
  | 0, x, v => (x, v)
  | k + 1, x, v => if dgt (c (i + x)) = true then nums c i k (x + 1) (10 * v + c (i + x) - 48) else (x, v)
def numP (c : Nat → Nat) (i : Nat) : (Nat ⊕ (Nat × TreeZ)) :=
  if (nums c i 4 0 0).1 = 0 then .inl i else if dgt (c (i + (nums c i 4 0 0).1)) = true then .inl (i + (nums c i 4 0 0).1) else .inr (i + (nums c i 4 0 0).1, eNz (nums c i 4 0 0).2)
def lpP (c : Nat → Nat) (r : Nat) (F : Nat → (Nat ⊕ (Nat × TreeZ))) : Nat → Nat → TreeZ → (Nat ⊕ (Nat × TreeZ))
  | 0, j, a => .inr (j, a)
  | m + 1, j, a => if rk (c j) = r then (match F (j + 1) with | .inl f => .inl f | .inr (k, b) => lpP c r F m k (eB (c j) a b)) else .inr (j, a)
def chP (c : Nat → Nat) (r : Nat) (F : Nat → (Nat ⊕ (Nat × TreeZ))) (i : Nat) : (Nat ⊕ (Nat × TreeZ)) := match F i with | .inl f => .inl f | .inr (j, a) => lpP c r F 121 j a
def cmP (c : Nat → Nat) (F : Nat → (Nat ⊕ (Nat × TreeZ))) (i : Nat) : (Nat ⊕ (Nat × TreeZ)) := match F i with
  | .inl f => .inl f
  | .inr (j, a) => if rk (c j) = 3 then (match F (j + 1) with | .inl f => .inl f | .inr (k, b) => .inr (k, eB (c j) a b)) else .inr (j, a)
def suP (c : Nat → Nat) (F : Nat → (Nat ⊕ (Nat × TreeZ))) : Nat → (Nat ⊕ (Nat × TreeZ)) := chP c 4 (chP c 5 F)
def coP (c : Nat → Nat) (F : Nat → (Nat ⊕ (Nat × TreeZ))) : Nat → (Nat ⊕ (Nat × TreeZ)) := cmP c (suP c F)
def boP (c : Nat → Nat) (F : Nat → (Nat ⊕ (Nat × TreeZ))) : Nat → (Nat ⊕ (Nat × TreeZ)) := chP c 2 (coP c F)
def eiP (c : Nat → Nat) (F : Nat → (Nat ⊕ (Nat × TreeZ))) : Nat → (Nat ⊕ (Nat × TreeZ)) := chP c 1 (boP c F)
def opP (c : Nat → Nat) : Nat → Nat → Nat → (Nat ⊕ (Nat × TreeZ))
  | 0, _, i => .inl i
  | m + 1, d, i =>
    if nmI (c i) < 6 then .inr (i + 1, eAz (c i))
    else if c i = 33 ∨ c i = 45 then (if d = 6 then .inl i else match opP c m (d + 1) (i + 1) with | .inl f => .inl f | .inr (j, e) => .inr (j, eU (if c i = 33 then 33 else 95) e))
    else if c i = 40 then (if d = 6 then .inl i else match eiP c (opP c m (d + 1)) (i + 1) with | .inl f => .inl f | .inr (j, e) => if c j = 41 then .inr (j + 1, e) else .inl j)
    else numP c i
def lnP (c : Nat → Nat) (i : Nat) : (Nat ⊕ (Nat × (Option TreeZ × TreeZ))) := match eiP c (opP c 8 0) i with
  | .inl f => .inl f
  | .inr (j, t) => if c j = 63 then (match eiP c (opP c 8 0) (j + 1) with | .inl f => .inl f | .inr (k, a) => .inr (k, (some t, a))) else .inr (j, (none, t))
def txP (n : Nat) (c : Nat → Nat) : Nat → Nat → (Nat ⊕ (Nat × List (Option TreeZ × TreeZ)))
  | 0, i => .inl i
  | m + 1, i => match lnP c i with
    | .inl f => .inl f
    | .inr (j, l) => if c j = 59 then (match txP n c m (j + 1) with | .inl f => .inl f | .inr (k, ls) => .inr (k, l :: ls)) else if j < n then .inl j else .inr (j, [l])
/-- how far a reading may come -/
def gd (n i : Nat) : (Nat ⊕ (Nat × TreeZ)) → Prop
  | .inl f => i ≤ f ∧ f ≤ n
  | .inr (j, e) => i < j ∧ j ≤ n ∧ wf e ∧ szZ e ≤ j - i
def txtZ (n : Nat) (c : Nat → Nat) : Prop := n ≤ 120 ∧ ∀ i, n ≤ i → c i = 0
theorem in_n {n j : Nat} {c : Nat → Nat} (ht : txtZ n c) (h : 0 < c j) : j < n := by
  by_cases g : j < n
  · exact g
  · have := ht.2 j (by omega)
    omega
theorem rk_pos {c : Nat} (h : 0 < rk c) : 0 < c := by
  by_cases g : c = 0
  · rw [g] at h
    exact absurd h (by decide)
  · omega
theorem lp_gd {n r : Nat} {c : Nat → Nat} {F : Nat → (Nat ⊕ (Nat × TreeZ))} (ht : txtZ n c) (hr : 0 < r) (hF : ∀ i, i ≤ n → gd n i (F i)) : ∀ (m j : Nat) (a : TreeZ) (i0 : Nat), i0 < j → j ≤ n → wf a → szZ a ≤ j - i0 → gd n i0 (lpP c r F m j a)
  | 0, j, a, i0, h1, h2, h3, h4 => ⟨h1, h2, h3, h4⟩
  | m + 1, j, a, i0, h1, h2, h3, h4 => by
    unfold lpP
    by_cases g : rk (c j) = r
    · rw [if_pos g]
      have hj := in_n ht (rk_pos (c := c j) (by omega))
      have q := hF (j + 1) (by omega)
      cases e : F (j + 1) with
      | inl f =>
        rw [e] at q
        show i0 ≤ f ∧ f ≤ n
        have q1 := q.1
        have q2 := q.2
        omega
      | inr jj =>
        obtain ⟨k, b⟩ := jj
        rw [e] at q
        obtain ⟨q1, q2, q3, q4⟩ := q
        exact lp_gd ht hr hF m k _ i0 (by omega) q2 (wf_B (by omega) h3 q3) (by rw [sz_B]; omega)
    · rw [if_neg g]
      exact ⟨h1, h2, h3, h4⟩
theorem ch_gd {n r : Nat} {c : Nat → Nat} {F : Nat → (Nat ⊕ (Nat × TreeZ))} (ht : txtZ n c) (hr : 0 < r) (hF : ∀ i, i ≤ n → gd n i (F i)) (i : Nat) (hi : i ≤ n) : gd n i (chP c r F i) := by
  unfold chP
  have q := hF i hi
  cases e : F i with
  | inl f => rw [e] at q; exact q
  | inr jj =>
    obtain ⟨j, a⟩ := jj
    rw [e] at q
    obtain ⟨q1, q2, q3, q4⟩ := q
    dsimp only
    exact lp_gd ht hr hF 121 j a i q1 q2 q3 q4
theorem cm_gd {n : Nat} {c : Nat → Nat} {F : Nat → (Nat ⊕ (Nat × TreeZ))} (ht : txtZ n c) (hF : ∀ i, i ≤ n → gd n i (F i)) (i : Nat) (hi : i ≤ n) : gd n i (cmP c F i) := by
  unfold cmP
  have q := hF i hi
  cases e : F i with
  | inl f => rw [e] at q; exact q
  | inr jj =>
    obtain ⟨j, a⟩ := jj
    rw [e] at q
    obtain ⟨q1, q2, q3, q4⟩ := q
    dsimp only
    by_cases g : rk (c j) = 3
    · rw [if_pos g]
      have hj := in_n ht (rk_pos (c := c j) (by omega))
      have q' := hF (j + 1) (by omega)
      cases e' : F (j + 1) with
      | inl f =>
        rw [e'] at q'
        show i ≤ f ∧ f ≤ n
        have r1 := q'.1
        have r2 := q'.2
        omega
      | inr jj =>
        obtain ⟨k, b⟩ := jj
        rw [e'] at q'
        obtain ⟨r1, r2, r3, r4⟩ := q'
        exact ⟨by omega, r2, wf_B (by omega) q3 r3, by rw [sz_B]; omega⟩
    · rw [if_neg g]
      exact ⟨q1, q2, q3, q4⟩
theorem ei_gd {n : Nat} {c : Nat → Nat} {F : Nat → (Nat ⊕ (Nat × TreeZ))} (ht : txtZ n c) (hF : ∀ i, i ≤ n → gd n i (F i)) : ∀ i, i ≤ n → gd n i (eiP c F i) :=
  ch_gd ht (by decide) (ch_gd ht (by decide) (cm_gd ht (ch_gd ht (by decide) (ch_gd ht (by decide) hF))))
theorem dgt_pos {c : Nat} (h : dgt c = true) : 0 < c := by have := dgt_iff.mp h; omega
theorem nums_gd {n i : Nat} {c : Nat → Nat} (ht : txtZ n c) : ∀ (k x v : Nat), i + x ≤ n → v < 10 ^ x → x ≤ (nums c i k x v).1 ∧ (nums c i k x v).1 ≤ x + k ∧ i + (nums c i k x v).1 ≤ n ∧ (nums c i k x v).2 < 10 ^ (x + k)
  | 0, x, v, h, hv => ⟨Nat.le_refl _, Nat.le_refl _, h, hv⟩
  | k + 1, x, v, h, hv => by
    unfold nums
    by_cases g : dgt (c (i + x)) = true
    · rw [if_pos g]
      have hj := in_n ht (dgt_pos g)
      have e : 10 ^ (x + 1) = 10 ^ x * 10 := Nat.pow_succ _ _
      obtain ⟨a1, a2, a3, a4⟩ := nums_gd (i := i) ht k (x + 1) (10 * v + c (i + x) - 48) (by omega) (by have := dgt_iff.mp g; omega)
      refine ⟨by omega, by omega, a3, ?_⟩
      rw [show x + (k + 1) = x + 1 + k by omega]
      exact a4
    · rw [if_neg g]
      exact ⟨Nat.le_refl _, by omega, h, Nat.lt_of_lt_of_le hv (Nat.pow_le_pow_right (by decide) (by omega))⟩
theorem num_gd {n i : Nat} {c : Nat → Nat} (ht : txtZ n c) (hi : i ≤ n) : gd n i (numP c i) := by
  obtain ⟨h1, h2, h3, h4⟩ := nums_gd (n := n) (i := i) ht 4 0 0 hi (by decide)
  unfold numP
  by_cases g : (nums c i 4 0 0).1 = 0
  · rw [if_pos g]
    exact ⟨Nat.le_refl _, hi⟩
  · rw [if_neg g]
    by_cases g2 : dgt (c (i + (nums c i 4 0 0).1)) = true
    · rw [if_pos g2]
      exact ⟨by omega, h3⟩
    · rw [if_neg g2]
      refine ⟨by omega, h3, ?_, ?_⟩
      · refine wf_N ?_
        have : (nums c i 4 0 0).2 < 10 ^ 4 := h4
        omega
      · show 1 ≤ _
        omega
theorem nm_pos {c : Nat} (h : nmI c < 6) : 0 < c := by
  by_cases g : c = 0
  · rw [g] at h
    exact absurd h (by decide)
  · omega
theorem op_gd {n : Nat} {c : Nat → Nat} (ht : txtZ n c) : ∀ (m d i : Nat), i ≤ n → gd n i (opP c m d i)
  | 0, d, i, h => ⟨Nat.le_refl _, h⟩
  | m + 1, d, i, h => by
    unfold opP
    by_cases g1 : nmI (c i) < 6
    · rw [if_pos g1]
      have hj := in_n ht (nm_pos g1)
      exact ⟨by omega, by omega, wf_A g1, by show 1 ≤ _; omega⟩
    · rw [if_neg g1]
      by_cases g2 : c i = 33 ∨ c i = 45
      · rw [if_pos g2]
        have hj := in_n ht (show 0 < c i by omega)
        by_cases g3 : d = 6
        · rw [if_pos g3]
          exact ⟨Nat.le_refl _, h⟩
        · rw [if_neg g3]
          have q := op_gd ht m (d + 1) (i + 1) (by omega)
          cases e : opP c m (d + 1) (i + 1) with
          | inl f =>
            rw [e] at q
            have q1 := q.1
            exact ⟨by omega, q.2⟩
          | inr jj =>
            obtain ⟨j, a⟩ := jj
            rw [e] at q
            obtain ⟨q1, q2, q3, q4⟩ := q
            refine ⟨by omega, q2, wf_U ?_ q3, by rw [sz_U]; omega⟩
            split
            · exact Or.inl rfl
            · exact Or.inr rfl
      · rw [if_neg g2]
        by_cases g4 : c i = 40
        · rw [if_pos g4]
          have hj := in_n ht (show 0 < c i by omega)
          by_cases g3 : d = 6
          · rw [if_pos g3]
            exact ⟨Nat.le_refl _, h⟩
          · rw [if_neg g3]
            have q := ei_gd ht (fun i hi => op_gd ht m (d + 1) i hi) (i + 1) (by omega)
            cases e : eiP c (opP c m (d + 1)) (i + 1) with
            | inl f =>
              rw [e] at q
              have q1 := q.1
              exact ⟨by omega, q.2⟩
            | inr jj =>
              obtain ⟨j, a⟩ := jj
              rw [e] at q
              obtain ⟨q1, q2, q3, q4⟩ := q
              dsimp only
              by_cases g5 : c j = 41
              · rw [if_pos g5]
                have hj := in_n ht (show 0 < c j by omega)
                exact ⟨by omega, by omega, q3, by omega⟩
              · rw [if_neg g5]
                exact ⟨by omega, q2⟩
        · rw [if_neg g4]
          exact num_gd ht h
/-- arrays that hold a list -/
def sg1 (f : Nat → Int32) : Nat → List Int32 → Prop
  | _, [] => True
  | s, x :: L => f s = x ∧ sg1 f (s + 1) L
def stk (f : Nat → Int32) : List Nat → Prop
  | [] => True
  | x :: S => f S.length = nI x ∧ stk f S
theorem sg_app {f : Nat → Int32} : ∀ (L M : List Int32) (s : Nat), sg1 f s (L ++ M) ↔ sg1 f s L ∧ sg1 f (s + L.length) M
  | [], M, s => by simp [sg1]
  | x :: L, M, s => by
    show (f s = x ∧ sg1 f (s + 1) (L ++ M)) ↔ (f s = x ∧ sg1 f (s + 1) L) ∧ _
    rw [sg_app L M (s + 1), List.length_cons, show s + (L.length + 1) = s + 1 + L.length by omega, and_assoc]
theorem sg_c {f g : Nat → Int32} : ∀ (L : List Int32) (s : Nat), (∀ j, s ≤ j → j < s + L.length → g j = f j) → sg1 f s L → sg1 g s L
  | [], s, h, _ => trivial
  | x :: L, s, h, q => by
    rw [List.length_cons] at h
    exact ⟨(h s (Nat.le_refl _) (by omega)).trans q.1, sg_c L (s + 1) (fun j h1 h2 => h j (by omega) (by omega)) q.2⟩
theorem stk_c {f g : Nat → Int32} : ∀ (S : List Nat), (∀ j, j < S.length → g j = f j) → stk f S → stk g S
  | [], h, _ => trivial
  | x :: S, h, q => by
    rw [List.length_cons] at h
    exact ⟨(h S.length (by omega)).trans q.1, stk_c S (fun j hj => h j (by omega)) q.2⟩
