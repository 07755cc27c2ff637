/-! the reference's reader, over its cells -/
abbrev StZ : Type := List (Int32 × Int32 × Int32)
def MR (σ τ : Sg) : Prop := (∀ c, c ≠ 60 → c ≠ 73 → c ≠ 74 → τ.1 c = σ.1 c) ∧ (∀ k, k ≠ 18 → k ≠ 19 → k ≠ 20 → k ≠ 21 → τ.1 60 k = σ.1 60 k) ∧ (∀ j, j < 130 → τ.1 73 j = σ.1 73 j ∧ τ.1 74 j = σ.1 74 j) ∧ τ.2 = σ.2
theorem MR.refl (σ : Sg) : MR σ σ := ⟨fun _ _ _ _ => rfl, fun _ _ _ _ _ => rfl, fun _ _ => ⟨rfl, rfl⟩, rfl⟩
theorem MR.s {σ τ : Sg} {k : Nat} {v : Int32} (h : MR σ τ) (hk : k = 18 ∨ k = 19 ∨ k = 20 ∨ k = 21) : MR σ (sI τ 60 k v) :=
  ⟨fun c h1 h2 h3 => by rw [rd_ne h1]; exact h.1 c h1 h2 h3, fun j h1 h2 h3 h4 => by rw [rd_in, if_neg (by omega)]; exact h.2.1 j h1 h2 h3 h4, fun j hj => ⟨by rw [rd_ne (by decide)]; exact (h.2.2.1 j hj).1, by rw [rd_ne (by decide)]; exact (h.2.2.1 j hj).2⟩, h.2.2.2⟩
theorem MR.w {σ τ : Sg} {k : Nat} {u v : Int32} (h : MR σ τ) (hk : 130 ≤ k) : MR σ (sI (sI τ 73 k u) 74 k v) :=
  ⟨fun c h1 h2 h3 => by rw [rd_ne h3, rd_ne h2]; exact h.1 c h1 h2 h3, fun j h1 h2 h3 h4 => by rw [rd_ne (by decide), rd_ne (by decide)]; exact h.2.1 j h1 h2 h3 h4, fun j hj => ⟨by rw [rd_ne (by decide), rd_in, if_neg (by omega)]; exact (h.2.2.1 j hj).1, by rw [rd_in, if_neg (by omega), rd_ne (by decide)]; exact (h.2.2.1 j hj).2⟩, h.2.2.2⟩
def QM (σ0 τ : Sg) (i d : Nat) (T : StZ) : Prop :=
  MR σ0 τ ∧ τ.1 60 18 = nI i ∧ τ.1 60 19 = -1 ∧ τ.1 60 20 = nI d ∧ τ.1 60 21 = nI T.length ∧ sg1 (τ.1 73) 130 (T.map (fun x => x.2.1)) ∧ sg1 (τ.1 74) 130 (T.map (fun x => x.2.2))
def QF (σ0 τ : Sg) (n f m : Nat) : Prop := MR σ0 τ ∧ τ.1 60 19 = nI f ∧ (∃ h, h ≤ n ∧ τ.1 60 18 = nI h) ∧ ∃ s, s ≤ m ∧ τ.1 60 21 = nI s
theorem QF.up {σ0 τ : Sg} {n f m m' : Nat} (h : QF σ0 τ n f m) (hm : m ≤ m') : QF σ0 τ n f m' := by
  obtain ⟨h1, h2, h3, s, h4, h5⟩ := h
  exact ⟨h1, h2, h3, s, by omega, h5⟩
theorem QM.s18 {σ0 τ : Sg} {i d : Nat} {T : StZ} (h : QM σ0 τ i d T) (i' : Nat) : QM σ0 (sI τ 60 18 (nI i')) i' d T := by
  obtain ⟨h1, h2, h3, h4, h5, h6, h7⟩ := h
  exact ⟨h1.s (by omega), by rw [rd_in, if_pos rfl], by rw [rd_in, if_neg (by decide)]; exact h3, by rw [rd_in, if_neg (by decide)]; exact h4, by rw [rd_in, if_neg (by decide)]; exact h5, by rw [rd_ne (by decide)]; exact h6, by rw [rd_ne (by decide)]; exact h7⟩
theorem QM.s20 {σ0 τ : Sg} {i d : Nat} {T : StZ} (h : QM σ0 τ i d T) (d' : Nat) : QM σ0 (sI τ 60 20 (nI d')) i d' T := by
  obtain ⟨h1, h2, h3, h4, h5, h6, h7⟩ := h
  exact ⟨h1.s (by omega), by rw [rd_in, if_neg (by decide)]; exact h2, by rw [rd_in, if_neg (by decide)]; exact h3, by rw [rd_in, if_pos rfl], by rw [rd_in, if_neg (by decide)]; exact h5, by rw [rd_ne (by decide)]; exact h6, by rw [rd_ne (by decide)]; exact h7⟩
theorem QF.s20 {σ0 τ : Sg} {n f m : Nat} {v : Int32} (h : QF σ0 τ n f m) : QF σ0 (sI τ 60 20 v) n f m := by
  obtain ⟨h1, h2, ⟨x, h3, h3'⟩, s, h4, h5⟩ := h
  exact ⟨h1.s (by omega), by rw [rd_in, if_neg (by decide)]; exact h2, ⟨x, h3, by rw [rd_in, if_neg (by decide)]; exact h3'⟩, s, h4, by rw [rd_in, if_neg (by decide)]; exact h5⟩
/-- a letter, as the reference looks at it -/
def lk (x : Nat) (v : Int32) : Prop := ∀ k, 0 < k → k < 128 → (v = nI k ↔ x = k)
theorem lkl {x : Nat} {v : Int32} (h : lk x v) {k : Nat} {m : Int32} (hm : m = nI k) (h1 : 0 < k) (h2 : k < 128) : v = m ↔ x = k := by
  rw [hm]
  exact h k h1 h2
theorem nar_b : ∀ x, x < 256 → (x < 128 → (nI x).toInt8.toInt32 = nI x) ∧ (128 ≤ x → (nI x).toInt8.toInt32 < 0) := by decide +kernel
theorem lk_nar {x : Nat} (hx : x < 256) : lk x (vp_nar .byte (nI x)) := by
  intro k h1 h2
  rw [vp_nar_byte]
  by_cases g : x < 128
  · rw [(nar_b x hx).1 g]
    exact nI_eq (by omega) (by omega)
  · have := (nar_b x hx).2 (by omega)
    constructor
    · intro q
      rw [q] at this
      exact absurd this (nI_pos (by omega))
    · intro q
      omega
theorem lk_m1 {x : Nat} (hx : x = 0) : lk x (-1) := by
  intro k h1 h2
  constructor
  · intro q
    have e := congrArg Int32.toInt q
    rw [nI_toInt (by omega), show (-1 : Int32).toInt = -1 by decide] at e
    omega
  · intro q
    omega
/-- what the reference's tape gives -/
def Tp (σ0 : Sg) (n : Nat) (c : Nat → Nat) : Prop := txtZ n c ∧ (∀ j, c j < 256) ∧ σ0.1 60 17 = nI n ∧ ∀ j, j < n → σ0.1 72 j = vp_nar .byte (nI (c j))
theorem look_r {σ0 τ : Sg} {n i : Nat} {c : Nat → Nat} (hT : Tp σ0 n c) (hM : MR σ0 τ) (h18 : τ.1 60 18 = nI i) (hi : i ≤ n) {K : Int32 → Sg → Prop} (hK : ∀ v, lk (c i) v → K v τ) : w_X12_look τ K := by
  obtain ⟨ht, hc, e1, e2⟩ := hT
  have hn := ht.1
  unfold w_X12_look
  rw [hM.2.1 17 (by decide) (by decide) (by decide) (by decide), e1, h18]
  by_cases g : n ≤ i
  · rw [if_pos ((nI_leI (by omega) (by omega)).mpr g)]
    exact hK _ (lk_m1 (ht.2 i g))
  · rw [if_neg (fun q => g ((nI_leI (by omega) (by omega)).mp q)), cl_nI (by omega), hM.1 72 (by decide) (by decide) (by decide), e2 i (by omega)]
    exact ⟨vp_nI (by omega) (by decide), hK _ (lk_nar (hc i))⟩
theorem look_m {σ0 τ : Sg} {n i d : Nat} {T : StZ} {c : Nat → Nat} (hT : Tp σ0 n c) (h : QM σ0 τ i d T) (hi : i ≤ n) {K : Int32 → Sg → Prop} (hK : ∀ v, lk (c i) v → K v τ) : w_X12_look τ K := look_r hT h.1 h.2.1 hi hK
theorem wrongZ_m {σ0 τ : Sg} {n i d : Nat} {T : StZ} (h : QM σ0 τ i d T) (hi : i ≤ n) {K : Sg → Prop} (hK : ∀ τ', QF σ0 τ' n i T.length → K τ') : w_X12_wrong τ K := by
  obtain ⟨h1, h2, h3, h4, h5, h6, h7⟩ := h
  unfold w_X12_wrong
  rw [h3, if_neg (by decide), bd_eq, h2]
  exact hK _ ⟨h1.s (by omega), by rw [rd_in, if_pos rfl], ⟨i, hi, by rw [rd_in, if_neg (by decide)]; exact h2⟩, T.length, Nat.le_refl _, by rw [rd_in, if_neg (by decide)]; exact h5⟩
theorem wrongF_m {σ0 τ : Sg} {n f m : Nat} (h : QF σ0 τ n f m) (hf : f ≤ 1000) {K : Sg → Prop} (hK : K τ) : w_X12_wrong τ K := by
  unfold w_X12_wrong
  rw [h.2.1, if_pos (nI_pos' (by omega))]
  exact hK
theorem addS_m {σ0 τ : Sg} {i d w : Nat} {p b : Int32} {T : StZ} (h : QM σ0 τ i d T) (hl : T.length < 130) (hw : w < 128) {K : Sg → Prop} (hK : ∀ τ', QM σ0 τ' i d (T ++ [(p, nI w, b)]) → K τ') : w_X12_addStep (nI w) b τ K := by
  obtain ⟨h1, h2, h3, h4, h5, h6, h7⟩ := h
  have hnar : vp_nar .byte (Int8.toInt32 (Int32.toInt8 (nI w))) = nI w := by
    rw [nar_byte, vp_nar_byte]
    exact (nar_b w (by omega)).1 hw
  unfold w_X12_addStep
  rw [show (130 : Int32) = nI 130 from rfl]
  simp only [bd_eq, rd_ne, rd_fn, rd_2, rdr_eq, rdr_ne, rdr_2, rj_1, rj_ne, rj_fn, rjr_1, rjr_eq, rjr_ne, ne_eq, not_false_eq_true, reduceCtorEq, Nat.reduceEqDiff, if_true, if_false, ite_true, ite_false, h5, nI_add, nI_1, cl_nI (show 130 + T.length < 1000000 by omega), hnar]
  refine ⟨vp_nI (by omega) (by decide), vp_nI (by omega) (by decide), hK _ ⟨(h1.w (by omega)).s (by omega), ?_, ?_, ?_, ?_, ?_, ?_⟩⟩
  · rw [rd_in, if_neg (by decide), rd_ne (by decide), rd_ne (by decide)]; exact h2
  · rw [rd_in, if_neg (by decide), rd_ne (by decide), rd_ne (by decide)]; exact h3
  · rw [rd_in, if_neg (by decide), rd_ne (by decide), rd_ne (by decide)]; exact h4
  · rw [rd_in, if_pos rfl, List.length_append]; rfl
  · rw [rd_ne (by decide), rd_ne (by decide), List.map_append]
    refine (sg_app _ _ _).mpr ⟨sg_c _ _ (fun j q1 q2 => by rw [rd_in, if_neg (by rw [List.length_map] at q2; omega)]) h6, ?_, trivial⟩
    rw [List.length_map, rd_in, if_pos rfl]
  · rw [rd_ne (by decide), List.map_append]
    refine (sg_app _ _ _).mpr ⟨sg_c _ _ (fun j q1 q2 => by rw [rd_in, if_neg (by rw [List.length_map] at q2; omega), rd_ne (by decide)]) h7, ?_, trivial⟩
    rw [List.length_map, rd_in, if_pos rfl]
theorem addF_m {σ0 τ : Sg} {n f m : Nat} {a b : Int32} (h : QF σ0 τ n f m) (hm : m < 130) {K : Sg → Prop} (hK : ∀ τ', QF σ0 τ' n f (m + 1) → K τ') : w_X12_addStep a b τ K := by
  obtain ⟨h1, h2, ⟨x, h3, h3'⟩, s, h4, h5⟩ := h
  unfold w_X12_addStep
  rw [show (130 : Int32) = nI 130 from rfl]
  simp only [bd_eq, rd_ne, rd_fn, rd_2, rdr_eq, rdr_ne, rdr_2, rj_1, rj_ne, rj_fn, rjr_1, rjr_eq, rjr_ne, ne_eq, not_false_eq_true, reduceCtorEq, Nat.reduceEqDiff, if_true, if_false, ite_true, ite_false, h5, nI_add, nI_1, cl_nI (show 130 + s < 1000000 by omega)]
  refine ⟨vp_nI (by omega) (by decide), vp_nI (by omega) (by decide), hK _ ⟨(h1.w (by omega)).s (by omega), ?_, ⟨x, h3, ?_⟩, s + 1, by omega, ?_⟩⟩
  · rw [rd_in, if_neg (by decide), rd_ne (by decide), rd_ne (by decide)]; exact h2
  · rw [rd_in, if_neg (by decide), rd_ne (by decide), rd_ne (by decide)]; exact h3'
  · rw [rd_in, if_pos rfl]
theorem opens_m {σ0 τ : Sg} {n i d : Nat} {T : StZ} (h : QM σ0 τ i d T) (hi : i ≤ n) (hd : d ≤ 6) {K : Int32 → Sg → Prop} (h6 : d = 6 → ∀ τ', QF σ0 τ' n i T.length → K 0 τ') (h5 : d ≠ 6 → ∀ τ', QM σ0 τ' (i + 1) (d + 1) T → K 1 τ') : w_X12_opens τ K := by
  unfold w_X12_opens
  rw [h.2.2.2.1]
  by_cases g : d = 6
  · rw [if_pos ((e_lit (m := 6) (k := 6) rfl (by omega) (by decide)).mpr g)]
    exact wrongZ_m h hi (h6 g)
  · rw [if_neg (fun q => g ((e_lit (m := 6) (k := 6) rfl (by omega) (by decide)).mp q)), bd_eq, bd_eq, nI_1, rd_in, if_neg (by decide), h.2.1, nI_1]
    exact h5 g _ ((h.s20 (d + 1)).s18 (i + 1))
def RMz (σ0 : Sg) (n : Nat) (d : Nat) (F : Sg → (Sg → Prop) → Prop) (P : Nat → (Nat ⊕ (Nat × TreeZ))) : Prop :=
  ∀ (i : Nat) (T : StZ) (τ : Sg) (K : Sg → Prop), i ≤ n → T.length ≤ i → QM σ0 τ i d T → (∀ f, P i = .inl f → ∀ τ', QF σ0 τ' n f (T.length + (f - i) + 1) → K τ') → (∀ j e, P i = .inr (j, e) → ∀ τ', QM σ0 τ' j d (T ++ e.1) → K τ') → F τ K
/-- a loop of one rank -/
def LpR (σ0 : Sg) (n : Nat) (c : Nat → Nat) (r d : Nat) (Fn : Sg → (Sg → Prop) → Prop) (G : (Sg → Prop) → Nat → Sg → Prop) : Prop :=
  (∀ (Q : Sg → Prop) (m : Nat) (τ : Sg) (i : Nat) (T : StZ), QM σ0 τ i d T → i ≤ n → (rk (c i) = r → Fn (sI τ 60 18 (nI (i + 1))) (fun σ9 => w_X12_addStep (nI (c i)) (0 : Int32) σ9 (fun σ10 => G Q m σ10))) → (rk (c i) ≠ r → Q τ) → G Q (m + 1) τ) ∧
  ∀ (Q : Sg → Prop) (m : Nat) (τ : Sg) (f s : Nat), QF σ0 τ n f s → f ≤ n → Q τ → G Q (m + 1) τ
theorem rk_128 {x : Nat} (h : 0 < rk x) : x < 128 := by
  by_cases g : x < 128
  · exact g
  · unfold rk at h
    rw [if_neg (by omega), if_neg (by omega), if_neg (by omega), if_neg (by omega), if_neg (by omega), if_neg (by omega), if_neg (by omega), if_neg (by omega), if_neg (by omega), if_neg (by omega)] at h
    omega
theorem lp_RM {σ0 : Sg} {n r d : Nat} {c : Nat → Nat} {Fn : Sg → (Sg → Prop) → Prop} {F : Nat → (Nat ⊕ (Nat × TreeZ))} {G : (Sg → Prop) → Nat → Sg → Prop} (ht : txtZ n c) (hr : 0 < r) (hF : RMz σ0 n d Fn F) (hG : ∀ i, i ≤ n → gd n i (F i)) (hL : LpR σ0 n c r d Fn G) {K : Sg → Prop} {i0 : Nat} {T : StZ} (hT : T.length ≤ i0) : ∀ (m j : Nat) (A : TreeZ) (τ : Sg), n < j + m → i0 ≤ j → j ≤ n → szZ A ≤ j - i0 → QM σ0 τ j d (T ++ A.1) →
    (∀ f, lpP c r F m j A = .inl f → ∀ τ', QF σ0 τ' n f (T.length + (f - i0) + 1) → K τ') → (∀ j' e, lpP c r F m j A = .inr (j', e) → ∀ τ', QM σ0 τ' j' d (T ++ e.1) → K τ') → G K m τ
  | 0, j, A, τ, h1, _, h2, _, _, _, _ => by omega
  | m + 1, j, A, τ, h1, h0, h2, h3, h4, k1, k2 => by
    have hn := ht.1
    unfold lpP at k1 k2
    refine hL.1 K m τ j _ h4 h2 (fun g => ?_) (fun g => ?_)
    · rw [if_pos g] at k1 k2
      have hj := in_n ht (rk_pos (c := c j) (by omega))
      have qg := hG (j + 1) (by omega)
      have hlen : (T ++ A.1).length = T.length + szZ A := List.length_append
      refine hF (j + 1) (T ++ A.1) _ _ (by omega) (by omega) (h4.s18 (j + 1)) (fun f hf τ' h' => ?_) (fun k B hk τ' h' => ?_)
      · rw [hf] at k1 qg
        have q1 : j + 1 ≤ f := qg.1
        have q2 : f ≤ n := qg.2
        refine addF_m h' (by omega) (fun τ2 h2' => ?_)
        cases m with
        | zero => omega
        | succ m => exact hL.2 K m τ2 f _ h2' q2 (k1 f rfl τ2 (h2'.up (by omega)))
      · rw [hk] at k1 k2 qg
        obtain ⟨q1, q2, q3, q4⟩ := qg
        have hlen2 : (T ++ A.1 ++ B.1).length = T.length + szZ A + szZ B := by rw [List.length_append, hlen]; rfl
        refine addS_m (p := ngI (c j)) h' (by omega) (rk_128 (by omega)) (fun τ2 h2' => ?_)
        refine lp_RM ht hr hF hG hL hT m k (eB (c j) A B) τ2 (by omega) (by omega) q2 (by rw [sz_B]; omega) ?_ k1 k2
        have e : T ++ (eB (c j) A B).1 = T ++ A.1 ++ B.1 ++ [(ngI (c j), nI (c j), 0)] := by
          show T ++ (A.1 ++ B.1 ++ [(ngI (c j), nI (c j), 0)]) = _
          rw [List.append_assoc, List.append_assoc, List.append_assoc]
        rw [e]
        exact h2'
    · rw [if_neg g] at k2
      exact k2 j A rfl τ h4
theorem ch_RM {σ0 : Sg} {n r d : Nat} {c : Nat → Nat} {Fn : Sg → (Sg → Prop) → Prop} {F : Nat → (Nat ⊕ (Nat × TreeZ))} {G : (Sg → Prop) → Nat → Sg → Prop} (ht : txtZ n c) (hr : 0 < r) (hF : RMz σ0 n d Fn F) (hG : ∀ i, i ≤ n → gd n i (F i)) (hL : LpR σ0 n c r d Fn G) : RMz σ0 n d (fun σ Q => Fn σ (fun σ1 => ∃ m, G Q m σ1)) (chP c r F) := by
  intro i T τ K hi hT h k1 k2
  have hn := ht.1
  have qg := hG i hi
  unfold chP at k1 k2
  refine hF i T τ _ hi hT h (fun f hf τ' h' => ?_) (fun j A hj τ' h' => ?_)
  · rw [hf] at k1 qg
    exact ⟨1, hL.2 K 0 τ' f _ h' qg.2 (k1 f rfl τ' h')⟩
  · rw [hj] at k1 k2 qg
    obtain ⟨q1, q2, q3, q4⟩ := qg
    exact ⟨121, lp_RM ht hr hF hG hL hT 121 j A τ' (by omega) (by omega) q2 q4 h' k1 k2⟩
theorem rk_5 {x : Nat} : rk x = 5 ↔ x = 42 ∨ x = 47 ∨ x = 37 := by
  unfold rk
  repeat' split
  all_goals omega
theorem rk_4 {x : Nat} : rk x = 4 ↔ x = 43 ∨ x = 45 := by
  unfold rk
  repeat' split
  all_goals omega
theorem rk_3 {x : Nat} : rk x = 3 ↔ x = 60 ∨ x = 61 ∨ x = 62 := by
  unfold rk
  repeat' split
  all_goals omega
theorem rk_2 {x : Nat} : rk x = 2 ↔ x = 38 := by
  unfold rk
  repeat' split
  all_goals omega
theorem rk_1 {x : Nat} : rk x = 1 ↔ x = 124 := by
  unfold rk
  repeat' split
  all_goals omega
theorem prod_L {σ0 : Sg} {n d : Nat} {c : Nat → Nat} (hT : Tp σ0 n c) (F : Sg → (Sg → Prop) → Prop) : LpR σ0 n c 5 d F (fun Q m σ => w_X12_product_l4 Q F m σ) := by
  refine ⟨fun Q m τ i T h hi k1 k2 => ?_, fun Q m τ f s h hf hQ => ?_⟩
  · dsimp only
    rw [w_X12_product_l4, if_neg (by rw [h.2.2.1]; decide)]
    simp only [bd_eq]
    have body : rk (c i) = 5 → w_X12_look τ (fun r7 σ6 => F (sI σ6 60 18 ((σ6.1 60 18) + (1 : Int32))) (fun σ9 => w_X12_addStep r7 (0 : Int32) σ9 (fun σ10 => w_X12_product_l4 Q F m σ10))) := by
      intro g
      refine look_m hT h hi (fun v hv => ?_)
      rw [h.2.1, nI_1, (hv (c i) (by have := rk_pos (c := c i) (by omega); omega) (rk_128 (by omega))).mpr rfl]
      exact k1 g
    refine look_m hT h hi (fun v hv => ?_)
    by_cases g1 : c i = 42
    · rw [if_pos ((lkl hv (k := 42) (m := 42) rfl (by decide) (by decide)).mpr g1)]
      exact body (rk_5.mpr (by omega))
    rw [if_neg (fun q => g1 ((lkl hv (k := 42) (m := 42) rfl (by decide) (by decide)).mp q))]
    refine look_m hT h hi (fun v hv => ?_)
    by_cases g2 : c i = 47
    · rw [if_pos ((lkl hv (k := 47) (m := 47) rfl (by decide) (by decide)).mpr g2)]
      exact body (rk_5.mpr (by omega))
    rw [if_neg (fun q => g2 ((lkl hv (k := 47) (m := 47) rfl (by decide) (by decide)).mp q))]
    refine look_m hT h hi (fun v hv => ?_)
    by_cases g3 : c i = 37
    · rw [if_pos ((lkl hv (k := 37) (m := 37) rfl (by decide) (by decide)).mpr g3)]
      exact body (rk_5.mpr (by omega))
    rw [if_neg (fun q => g3 ((lkl hv (k := 37) (m := 37) rfl (by decide) (by decide)).mp q))]
    exact k2 (fun q => by have := rk_5.mp q; omega)
  · dsimp only
    have hn := hT.1.1
    rw [w_X12_product_l4, if_pos (by rw [h.2.1]; exact nI_pos' (by omega))]
    exact hQ
theorem sum_L {σ0 : Sg} {n d : Nat} {c : Nat → Nat} (hT : Tp σ0 n c) (F : Sg → (Sg → Prop) → Prop) : LpR σ0 n c 4 d (fun σ Q => w_X12_product F σ Q) (fun Q m σ => w_X12_sum_l4 Q F m σ) := by
  refine ⟨fun Q m τ i T h hi k1 k2 => ?_, fun Q m τ f s h hf hQ => ?_⟩
  · dsimp only at k1 ⊢
    rw [w_X12_sum_l4, if_neg (by rw [h.2.2.1]; decide)]
    simp only [bd_eq]
    have body : rk (c i) = 4 → w_X12_look τ (fun r7 σ6 => w_X12_product F (sI σ6 60 18 ((σ6.1 60 18) + (1 : Int32))) (fun σ9 => w_X12_addStep r7 (0 : Int32) σ9 (fun σ10 => w_X12_sum_l4 Q F m σ10))) := by
      intro g
      refine look_m hT h hi (fun v hv => ?_)
      rw [h.2.1, nI_1, (hv (c i) (by have := rk_pos (c := c i) (by omega); omega) (rk_128 (by omega))).mpr rfl]
      exact k1 g
    refine look_m hT h hi (fun v hv => ?_)
    by_cases g1 : c i = 43
    · rw [if_pos ((lkl hv (k := 43) (m := 43) rfl (by decide) (by decide)).mpr g1)]
      exact body (rk_4.mpr (by omega))
    rw [if_neg (fun q => g1 ((lkl hv (k := 43) (m := 43) rfl (by decide) (by decide)).mp q))]
    refine look_m hT h hi (fun v hv => ?_)
    by_cases g2 : c i = 45
    · rw [if_pos ((lkl hv (k := 45) (m := 45) rfl (by decide) (by decide)).mpr g2)]
      exact body (rk_4.mpr (by omega))
    rw [if_neg (fun q => g2 ((lkl hv (k := 45) (m := 45) rfl (by decide) (by decide)).mp q))]
    exact k2 (fun q => by have := rk_4.mp q; omega)
  · dsimp only
    have hn := hT.1.1
    rw [w_X12_sum_l4, if_pos (by rw [h.2.1]; exact nI_pos' (by omega))]
    exact hQ
theorem both_L {σ0 : Sg} {n d : Nat} {c : Nat → Nat} (hT : Tp σ0 n c) (F : Sg → (Sg → Prop) → Prop) : LpR σ0 n c 2 d (fun σ Q => w_X12_compared F σ Q) (fun Q m σ => w_X12_both_l4 Q F m σ) := by
  refine ⟨fun Q m τ i T h hi k1 k2 => ?_, fun Q m τ f s h hf hQ => ?_⟩
  · dsimp only at k1 ⊢
    rw [w_X12_both_l4, if_neg (by rw [h.2.2.1]; decide)]
    simp only [bd_eq]
    refine look_m hT h hi (fun v hv => ?_)
    by_cases g1 : c i = 38
    · rw [if_pos ((lkl hv (k := 38) (m := 38) rfl (by decide) (by decide)).mpr g1), h.2.1, nI_1]
      have k := k1 (rk_2.mpr g1)
      rw [g1] at k
      exact k
    rw [if_neg (fun q => g1 ((lkl hv (k := 38) (m := 38) rfl (by decide) (by decide)).mp q))]
    exact k2 (fun q => g1 (rk_2.mp q))
  · dsimp only
    have hn := hT.1.1
    rw [w_X12_both_l4, if_pos (by rw [h.2.1]; exact nI_pos' (by omega))]
    exact hQ
theorem either_L {σ0 : Sg} {n d : Nat} {c : Nat → Nat} (hT : Tp σ0 n c) (F : Sg → (Sg → Prop) → Prop) : LpR σ0 n c 1 d (fun σ Q => w_X12_both F σ Q) (fun Q m σ => w_X12_either_l4 Q F m σ) := by
  refine ⟨fun Q m τ i T h hi k1 k2 => ?_, fun Q m τ f s h hf hQ => ?_⟩
  · dsimp only at k1 ⊢
    rw [w_X12_either_l4, if_neg (by rw [h.2.2.1]; decide)]
    simp only [bd_eq]
    refine look_m hT h hi (fun v hv => ?_)
    by_cases g1 : c i = 124
    · rw [if_pos ((lkl hv (k := 124) (m := 124) rfl (by decide) (by decide)).mpr g1), h.2.1, nI_1]
      have k := k1 (rk_1.mpr g1)
      rw [g1] at k
      exact k
    rw [if_neg (fun q => g1 ((lkl hv (k := 124) (m := 124) rfl (by decide) (by decide)).mp q))]
    exact k2 (fun q => g1 (rk_1.mp q))
  · dsimp only
    have hn := hT.1.1
    rw [w_X12_either_l4, if_pos (by rw [h.2.1]; exact nI_pos' (by omega))]
    exact hQ
theorem cm_RM {σ0 : Sg} {n d : Nat} {c : Nat → Nat} {F : Sg → (Sg → Prop) → Prop} {P : Nat → (Nat ⊕ (Nat × TreeZ))} (hT : Tp σ0 n c) (hF : RMz σ0 n d (fun σ Q => w_X12_sum F σ Q) P) (hG : ∀ i, i ≤ n → gd n i (P i)) : RMz σ0 n d (fun σ Q => w_X12_compared F σ Q) (cmP c P) := by
  intro i T τ K hi hl h k1 k2
  have hn := hT.1.1
  have qg := hG i hi
  unfold cmP at k1 k2
  unfold w_X12_compared
  refine hF i T τ _ hi hl h (fun f hf τ' h' => ?_) (fun j A hj τ' h' => ?_)
  · rw [hf] at k1 qg
    have q2 : f ≤ n := qg.2
    obtain ⟨x, x1, x2⟩ := h'.2.2.1
    refine look_r hT h'.1 x2 x1 (fun v hv => ?_)
    rw [if_pos (by rw [h'.2.1]; exact nI_pos' (by omega))]
    exact k1 f rfl τ' h'
  · rw [hj] at k1 k2 qg
    obtain ⟨q1, q2, q3, q4⟩ := qg
    dsimp only at k1 k2
    have hlen : (T ++ A.1).length = T.length + szZ A := List.length_append
    refine look_m hT h' q2 (fun v hv => ?_)
    rw [if_neg (by rw [h'.2.2.1]; decide)]
    simp only [bd_eq]
    by_cases g : rk (c j) = 3
    · rw [if_pos g] at k1 k2
      have hj' := in_n hT.1 (rk_pos (c := c j) (by omega))
      have qg' := hG (j + 1) (by omega)
      have ev : v = nI (c j) := (hv (c j) (by have := rk_pos (c := c j) (by omega); omega) (rk_128 (by omega))).mpr rfl
      have body : w_X12_sum F (sI τ' 60 18 ((τ'.1 60 18) + (1 : Int32))) (fun σ6 => w_X12_addStep v (0 : Int32) σ6 (fun σ7 => K σ7)) := by
        rw [h'.2.1, nI_1, ev]
        refine hF (j + 1) (T ++ A.1) _ _ (by omega) (by omega) (h'.s18 (j + 1)) (fun f hf τ2 h2 => ?_) (fun k B hk τ2 h2 => ?_)
        · rw [hf] at k1 qg'
          have r1 : j + 1 ≤ f := qg'.1
          have r2 : f ≤ n := qg'.2
          exact addF_m h2 (by omega) (fun τ3 h3 => k1 f rfl τ3 (h3.up (by omega)))
        · rw [hk] at k2 qg'
          obtain ⟨r1, r2, r3, r4⟩ := qg'
          have hlen2 : (T ++ A.1 ++ B.1).length = T.length + szZ A + szZ B := by rw [List.length_append, hlen]; rfl
          refine addS_m (p := ngI (c j)) h2 (by omega) (rk_128 (by omega)) (fun τ3 h3 => k2 k _ rfl τ3 ?_)
          have e : T ++ (eB (c j) A B).1 = T ++ A.1 ++ B.1 ++ [(ngI (c j), nI (c j), 0)] := by
            show T ++ (A.1 ++ B.1 ++ [(ngI (c j), nI (c j), 0)]) = _
            rw [List.append_assoc, List.append_assoc, List.append_assoc]
          rw [e]
          exact h3
      rcases rk_3.mp g with g1 | g1 | g1
      · rw [if_pos ((lkl hv (k := 60) (m := 60) rfl (by decide) (by decide)).mpr g1)]
        exact body
      · rw [if_neg (fun q => by have := (lkl hv (k := 60) (m := 60) rfl (by decide) (by decide)).mp q; omega), if_pos ((lkl hv (k := 61) (m := 61) rfl (by decide) (by decide)).mpr g1)]
        exact body
      · rw [if_neg (fun q => by have := (lkl hv (k := 60) (m := 60) rfl (by decide) (by decide)).mp q; omega), if_neg (fun q => by have := (lkl hv (k := 61) (m := 61) rfl (by decide) (by decide)).mp q; omega), if_pos ((lkl hv (k := 62) (m := 62) rfl (by decide) (by decide)).mpr g1)]
        exact body
    · rw [if_neg g] at k2
      rw [if_neg (fun q => g (rk_3.mpr (Or.inl ((lkl hv (k := 60) (m := 60) rfl (by decide) (by decide)).mp q)))), if_neg (fun q => g (rk_3.mpr (Or.inr (Or.inl ((lkl hv (k := 61) (m := 61) rfl (by decide) (by decide)).mp q))))), if_neg (fun q => g (rk_3.mpr (Or.inr (Or.inr ((lkl hv (k := 62) (m := 62) rfl (by decide) (by decide)).mp q)))))]
      exact k2 j A rfl τ' h'
theorem ei_RM {σ0 : Sg} {n d : Nat} {c : Nat → Nat} {F : Sg → (Sg → Prop) → Prop} {P : Nat → (Nat ⊕ (Nat × TreeZ))} (hT : Tp σ0 n c) (hF : RMz σ0 n d F P) (hG : ∀ i, i ≤ n → gd n i (P i)) : RMz σ0 n d (fun σ Q => w_X12_either F σ Q) (eiP c P) := by
  have ht := hT.1
  have h5 : RMz σ0 n d (fun σ Q => w_X12_product F σ Q) (chP c 5 P) := ch_RM (r := 5) ht (by omega) hF hG (prod_L hT F)
  have g5 := ch_gd (r := 5) ht (by omega) hG
  have h4 : RMz σ0 n d (fun σ Q => w_X12_sum F σ Q) (chP c 4 (chP c 5 P)) := ch_RM (r := 4) ht (by omega) h5 g5 (sum_L hT F)
  have g4 := ch_gd (r := 4) ht (by omega) g5
  have h3 := cm_RM hT h4 g4
  have g3 := cm_gd ht g4
  have h2 : RMz σ0 n d (fun σ Q => w_X12_both F σ Q) (chP c 2 (cmP c (chP c 4 (chP c 5 P)))) := ch_RM (r := 2) ht (by omega) h3 g3 (both_L hT F)
  have g2 := ch_gd (r := 2) ht (by omega) g3
  exact ch_RM (r := 1) ht (by omega) h2 g2 (either_L hT F)
theorem lk_dg {x : Nat} {v : Int32} (h : lk x v) : inR v 48 57 ↔ dgt x = true := by
  constructor
  · intro q
    obtain ⟨k, k1, k2⟩ := nI_of (x := v) (fun g => by have := i32_lt.mp g; rw [show (0 : Int32).toInt = 0 by decide] at this; have := q.1; omega)
    have q1 := q.1
    have q2 := q.2
    rw [k2, nI_toInt k1] at q1 q2
    have := (h k (by omega) (by omega)).mp k2
    exact dgt_iff.mpr (by omega)
  · intro q
    have q' := dgt_iff.mp q
    have := (h x (by omega) (by omega)).mpr rfl
    rw [this]
    unfold inR
    rw [nI_toInt (by omega)]
    omega
theorem fig_l {σ0 : Sg} {n i d : Nat} {T : StZ} {c : Nat → Nat} {J : Int32 → Int32 → Sg → Prop} (hT : Tp σ0 n c) : ∀ (k x v : Nat) (τ : Sg), x + k = 4 → i + x ≤ n → v < 10 ^ x → QM σ0 τ (i + x) d T → (∀ τ', QM σ0 τ' (i + (nums c i k x v).1) d T → J (nI (nums c i k x v).2) (nI (nums c i k x v).1) τ') → w_X12_figure_l4 J (k + 1) (nI v) (nI x) τ
  | 0, x, v, τ, h1, h2, h3, h, hJ => by
    rw [w_X12_figure_l4, if_pos ((ge_lit (m := 4) (k := 4) rfl (by omega) (by decide)).mpr (by omega))]
    exact hJ τ h
  | k + 1, x, v, τ, h1, h2, h3, h, hJ => by
    have hn := hT.1.1
    have hv : v < 10000 := Nat.lt_of_lt_of_le h3 (Nat.pow_le_pow_right (n := 10) (by decide) (show x ≤ 4 by omega))
    rw [nums] at hJ
    rw [w_X12_figure_l4, if_neg (fun q => by have := (ge_lit (m := 4) (k := 4) rfl (by omega) (by decide)).mp q; omega)]
    refine look_m hT h h2 (fun u hu => ?_)
    refine in_m (a := 48) (b := 57) (by decide) (by decide) (fun g => ?_) (fun g => ?_)
    · have g' := (lk_dg hu).mp g
      have hj := in_n hT.1 (dgt_pos g')
      rw [if_pos g'] at hJ
      rw [if_neg one_ne]
      refine look_m hT h h2 (fun u2 hu2 => ?_)
      have gd := dgt_iff.mp g'
      have e : 10 ^ (x + 1) = 10 ^ x * 10 := Nat.pow_succ _ _
      rw [bd_eq, bd_eq, (hu2 _ (by omega) (by omega)).mpr rfl, dig_v hv gd, h.2.1, nI_1, nI_1]
      exact fig_l hT k (x + 1) _ _ (by omega) (by omega) (by omega) (h.s18 (i + x + 1)) hJ
    · rw [if_neg (fun q => g ((lk_dg hu).mpr q))] at hJ
      rw [if_pos rfl]
      exact hJ τ h
theorem figure_m {σ0 τ : Sg} {n i d : Nat} {T : StZ} {c : Nat → Nat} {K : Sg → Prop} (hT : Tp σ0 n c) (hi : i ≤ n) (hl : T.length ≤ i) (h : QM σ0 τ i d T) (k1 : ∀ f, numP c i = .inl f → ∀ τ', QF σ0 τ' n f (T.length + (f - i) + 1) → K τ') (k2 : ∀ j e, numP c i = .inr (j, e) → ∀ τ', QM σ0 τ' j d (T ++ e.1) → K τ') : w_X12_figure τ K := by
  have hn := hT.1.1
  obtain ⟨b1, b2, b3, b4⟩ := nums_gd (i := i) hT.1 4 0 0 (by omega) (by decide)
  unfold numP at k1 k2
  unfold w_X12_figure
  simp only [bd_eq]
  refine ⟨5, fig_l hT 4 0 0 τ (by omega) (by omega) (by decide) h (fun τ1 h1 => ?_)⟩
  by_cases g : (nums c i 4 0 0).1 = 0
  · rw [if_pos g] at k1
    rw [g] at h1 ⊢
    rw [if_pos nI_0]
    exact wrongZ_m h1 (by omega) (fun τ2 h2 => addF_m h2 (by omega) (fun τ3 h3 => k1 i rfl τ3 (h3.up (by omega))))
  · rw [if_neg g] at k1 k2
    rw [if_neg (fun q => g ((e_lit (m := 0) (k := 0) rfl (by omega) (by decide)).mp q))]
    refine look_m hT h1 b3 (fun u hu => ?_)
    refine in_m (a := 48) (b := 57) (by decide) (by decide) (fun g2 => ?_) (fun g2 => ?_)
    · rw [if_pos ((lk_dg hu).mp g2)] at k1
      rw [if_neg one_ne]
      exact wrongZ_m h1 b3 (fun τ2 h2 => addF_m h2 (by omega) (fun τ3 h3 => k1 _ rfl τ3 (h3.up (by omega))))
    · rw [if_neg (fun q => g2 ((lk_dg hu).mpr q))] at k2
      rw [if_pos rfl]
      exact addS_m (p := nI (nums c i 4 0 0).2) (w := 1) h1 (by omega) (by decide) (fun τ2 h2 => k2 _ _ rfl τ2 h2)
theorem nameOf_m {x : Nat} {v : Int32} (h : lk x v) {σ : Sg} {K : Int32 → Sg → Prop} (h1 : nmI x < 6 → K (nI (nmI x)) σ) (h0 : ¬ nmI x < 6 → K (-1) σ) : w_X12_nameOf v σ K := by
  unfold w_X12_nameOf
  by_cases g100 : x = 100
  · rw [if_pos ((lkl h (k := 100) (m := 100) rfl (by decide) (by decide)).mpr g100)]
    have k := h1 (by rw [g100]; decide)
    rw [g100] at k
    exact k
  rw [if_neg (fun q => g100 ((lkl h (k := 100) (m := 100) rfl (by decide) (by decide)).mp q))]
  by_cases g104 : x = 104
  · rw [if_pos ((lkl h (k := 104) (m := 104) rfl (by decide) (by decide)).mpr g104)]
    have k := h1 (by rw [g104]; decide)
    rw [g104] at k
    exact k
  rw [if_neg (fun q => g104 ((lkl h (k := 104) (m := 104) rfl (by decide) (by decide)).mp q))]
  by_cases g107 : x = 107
  · rw [if_pos ((lkl h (k := 107) (m := 107) rfl (by decide) (by decide)).mpr g107)]
    have k := h1 (by rw [g107]; decide)
    rw [g107] at k
    exact k
  rw [if_neg (fun q => g107 ((lkl h (k := 107) (m := 107) rfl (by decide) (by decide)).mp q))]
  by_cases g112 : x = 112
  · rw [if_pos ((lkl h (k := 112) (m := 112) rfl (by decide) (by decide)).mpr g112)]
    have k := h1 (by rw [g112]; decide)
    rw [g112] at k
    exact k
  rw [if_neg (fun q => g112 ((lkl h (k := 112) (m := 112) rfl (by decide) (by decide)).mp q))]
  by_cases g115 : x = 115
  · rw [if_pos ((lkl h (k := 115) (m := 115) rfl (by decide) (by decide)).mpr g115)]
    have k := h1 (by rw [g115]; decide)
    rw [g115] at k
    exact k
  rw [if_neg (fun q => g115 ((lkl h (k := 115) (m := 115) rfl (by decide) (by decide)).mp q))]
  by_cases g119 : x = 119
  · rw [if_pos ((lkl h (k := 119) (m := 119) rfl (by decide) (by decide)).mpr g119)]
    have k := h1 (by rw [g119]; decide)
    rw [g119] at k
    exact k
  rw [if_neg (fun q => g119 ((lkl h (k := 119) (m := 119) rfl (by decide) (by decide)).mp q))]
  refine h0 (fun q => ?_)
  unfold nmI at q
  rw [if_neg g100, if_neg g104, if_neg g107, if_neg g112, if_neg g115, if_neg g119] at q
  omega
theorem op_RM {σ0 : Sg} {n : Nat} {c : Nat → Nat} (hT : Tp σ0 n c) : ∀ (m d : Nat), d ≤ 6 → 7 ≤ m + d → RMz σ0 n d (fun σ Q => w_X12_operand m σ Q) (opP c m d)
  | 0, d, h1, h2 => by omega
  | m + 1, d, hd, hm => by
    intro i T τ K hi hl h k1 k2
    have hn := hT.1.1
    show w_X12_operand_b (w_X12_operand m) τ K
    unfold opP at k1 k2
    unfold w_X12_operand_b
    refine look_m hT h hi (fun v hv => ?_)
    refine nameOf_m hv (fun g1 => ?_) (fun g1 => ?_)
    · rw [if_pos g1] at k2
      rw [if_neg (nI_pos (by omega))]
      refine nameOf_m hv (fun _ => ?_) (fun g => absurd g1 g)
      refine addS_m (w := 2) (p := ngI (c i)) h (by omega) (by decide) (fun τ2 h2 => ?_)
      rw [bd_eq, h2.2.1, nI_1]
      exact k2 _ _ rfl _ (h2.s18 (i + 1))
    · rw [if_neg g1] at k1 k2
      rw [if_pos (by decide)]
      simp only [bd_eq]
      by_cases g2 : c i = 33 ∨ c i = 45
      · rw [if_pos g2] at k1 k2
        have hj := in_n hT.1 (show 0 < c i by omega)
        have qg := op_gd hT.1 m (d + 1) (i + 1) (by omega)
        have body : w_X12_opens τ (fun r7 σ6 => if r7 = 0 then K σ6 else w_X12_operand m σ6 (fun σ8 => if v = (33 : Int32) then w_X12_addStep (3 : Int32) (0 : Int32) (sI σ8 60 20 ((σ8.1 60 20) - (1 : Int32))) (fun σ12 => K σ12) else w_X12_addStep (4 : Int32) (0 : Int32) (sI σ8 60 20 ((σ8.1 60 20) - (1 : Int32))) (fun σ12 => K σ12))) := by
          refine opens_m h hi hd (fun g3 τ2 h2 => ?_) (fun g3 τ2 h2 => ?_)
          · rw [if_pos g3] at k1
            rw [if_pos rfl]
            exact k1 i rfl τ2 (h2.up (by omega))
          · rw [if_neg g3] at k1 k2
            rw [if_neg one_ne]
            refine op_RM hT m (d + 1) (by omega) (by omega) (i + 1) T τ2 _ (by omega) (by omega) h2 (fun f hf τ3 h3 => ?_) (fun j e he τ3 h3 => ?_)
            · rw [hf] at k1 qg
              have q1 : i + 1 ≤ f := qg.1
              have q2 : f ≤ n := qg.2
              by_cases g33 : c i = 33
              · rw [if_pos ((lkl hv (k := 33) (m := 33) rfl (by decide) (by decide)).mpr g33)]
                exact addF_m h3.s20 (by omega) (fun τ4 h4 => k1 f rfl τ4 (h4.up (by omega)))
              · rw [if_neg (fun q => g33 ((lkl hv (k := 33) (m := 33) rfl (by decide) (by decide)).mp q))]
                exact addF_m h3.s20 (by omega) (fun τ4 h4 => k1 f rfl τ4 (h4.up (by omega)))
            · rw [he] at k2 qg
              obtain ⟨q1, q2, q3, q4⟩ := qg
              have hlen : (T ++ e.1).length = T.length + szZ e := List.length_append
              have k := k2 j _ rfl
              rw [h3.2.2.2.1, nI_pred]
              have h3' := h3.s20 d
              by_cases g33 : c i = 33
              · rw [if_pos ((lkl hv (k := 33) (m := 33) rfl (by decide) (by decide)).mpr g33)]
                rw [if_pos g33] at k
                refine addS_m (w := 3) (p := ngI 33) h3' (by omega) (by decide) (fun τ4 h4 => k τ4 ?_)
                show QM σ0 τ4 j d (T ++ (e.1 ++ [(ngI 33, 3, 0)]))
                rw [← List.append_assoc]
                exact h4
              · rw [if_neg (fun q => g33 ((lkl hv (k := 33) (m := 33) rfl (by decide) (by decide)).mp q))]
                rw [if_neg g33] at k
                refine addS_m (w := 4) (p := ngI 95) h3' (by omega) (by decide) (fun τ4 h4 => k τ4 ?_)
                show QM σ0 τ4 j d (T ++ (e.1 ++ [(ngI 95, 4, 0)]))
                rw [← List.append_assoc]
                exact h4
        by_cases g33 : c i = 33
        · have e33 := (lkl hv (k := 33) (m := 33) rfl (by decide) (by decide)).mpr g33
          rw [if_pos e33]
          exact body
        · rw [if_neg (fun q => g33 ((lkl hv (k := 33) (m := 33) rfl (by decide) (by decide)).mp q)), if_pos ((lkl hv (k := 45) (m := 45) rfl (by decide) (by decide)).mpr (by omega))]
          exact body
      · rw [if_neg g2] at k1 k2
        rw [if_neg (fun q => g2 (Or.inl ((lkl hv (k := 33) (m := 33) rfl (by decide) (by decide)).mp q))), if_neg (fun q => g2 (Or.inr ((lkl hv (k := 45) (m := 45) rfl (by decide) (by decide)).mp q)))]
        by_cases g4 : c i = 40
        · rw [if_pos g4] at k1 k2
          rw [if_pos ((lkl hv (k := 40) (m := 40) rfl (by decide) (by decide)).mpr g4)]
          have hj := in_n hT.1 (show 0 < c i by omega)
          have qg := ei_gd hT.1 (fun i hi => op_gd hT.1 m (d + 1) i hi) (i + 1) (by omega)
          refine opens_m h hi hd (fun g3 τ2 h2 => ?_) (fun g3 τ2 h2 => ?_)
          · rw [if_pos g3] at k1
            rw [if_pos rfl]
            exact k1 i rfl τ2 (h2.up (by omega))
          · rw [if_neg g3] at k1 k2
            rw [if_neg one_ne]
            refine ei_RM hT (op_RM hT m (d + 1) (by omega) (by omega)) (fun i hi => op_gd hT.1 m (d + 1) i hi) (i + 1) T τ2 _ (by omega) (by omega) h2 (fun f hf τ3 h3 => ?_) (fun j e he τ3 h3 => ?_)
            · rw [hf] at k1 qg
              have q1 : i + 1 ≤ f := qg.1
              have q2 : f ≤ n := qg.2
              rw [if_neg (by rw [h3.2.1]; exact nI_pos (by omega))]
              exact k1 f rfl τ3 (h3.up (by omega))
            · rw [he] at k1 k2 qg
              obtain ⟨q1, q2, q3, q4⟩ := qg
              dsimp only at k1 k2
              have hlen : (T ++ e.1).length = T.length + szZ e := List.length_append
              rw [if_pos (by rw [h3.2.2.1]; decide)]
              refine look_m hT h3 q2 (fun u hu => ?_)
              by_cases g5 : c j = 41
              · rw [if_pos g5] at k2
                rw [if_pos ((lkl hu (k := 41) (m := 41) rfl (by decide) (by decide)).mpr g5), h3.2.1, nI_1, rd_in, if_neg (by decide), h3.2.2.2.1, nI_pred]
                exact k2 _ _ rfl _ ((h3.s18 (j + 1)).s20 d)
              · rw [if_neg g5] at k1
                rw [if_neg (fun q => g5 ((lkl hu (k := 41) (m := 41) rfl (by decide) (by decide)).mp q))]
                exact wrongZ_m h3 q2 (fun τ4 h4 => k1 j rfl τ4 (h4.up (by omega)))
        · rw [if_neg g4] at k1 k2
          rw [if_neg (fun q => g4 ((lkl hv (k := 40) (m := 40) rfl (by decide) (by decide)).mp q))]
          exact figure_m hT hi hl h k1 k2
