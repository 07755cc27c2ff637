/-! the fewest reins: the class's -/
theorem imin_31 {a b : Nat} (ha : a < 2 ^ 31) (hb : b < 2 ^ 31) : imin (nI a) (nI b) = nI (min a b) := by
  unfold imin
  by_cases h : b < a
  · rw [if_pos (nI_lt h ha), Nat.min_eq_right (by omega)]
  · rw [if_neg (nI_nlt (by omega) hb), Nat.min_eq_left (by omega)]
theorem XT_3 {σ τ : Sg} {k p M c i : Nat} {l : Nat → Nat → Int32} {v : Int32} (hk : k < 6) (hc : c = 33 ∨ c = 34) (h : XT σ τ k p M l) : XT σ (sI τ c i v) k p M l := by
  obtain ⟨h1, h2, h3⟩ := h
  refine ⟨h1.trans (Fx.set (by omega)), CoK_c h2 (rd_ne (by omega)) (by rw [rd_ne (by omega)]) (by rw [rd_ne (by omega)]) (by rw [rd_ne (by omega)]) (by rw [rd_ne (by omega)]) (fun j _ => by rw [rd_ne (by omega)]) (rd_ne (by omega)), IKb_c h3 (Nat.le_refl _) (fun k hk => ⟨fun j _ => by rw [rd_ne (by omega)], rd_ne (by omega)⟩)⟩
theorem XT_3r {σ τ : Sg} {k p M c : Nat} {l : Nat → Nat → Int32} {v : Nat → Int32} (hk : k < 6) (hc : c = 33 ∨ c = 34) (h : XT σ τ k p M l) : XT σ (sIr τ c v) k p M l := by
  obtain ⟨h1, h2, h3⟩ := h
  refine ⟨h1.trans (Fx.setr (by omega)), CoK_c h2 (rdr_ne (by omega)) (by rw [rdr_ne (by omega)]) (by rw [rdr_ne (by omega)]) (by rw [rdr_ne (by omega)]) (by rw [rdr_ne (by omega)]) (fun j _ => by rw [rdr_ne (by omega)]) (rdr_ne (by omega)), IKb_c h3 (Nat.le_refl _) (fun k hk => ⟨fun j _ => by rw [rdr_ne (by omega)], rdr_ne (by omega)⟩)⟩
/-- hour t's plans -/
def okD (t : Nat) (D : Nat → Nat) : Prop := ∀ s, s < 2048 → D s = 2147483647 ∨ D s + 4 ^ (12 - t) ≤ (t + 1) * 16777216
/-- what the next hour's hold, behind choice i of stand s -/
def gone (l : Nat → Nat → Int32) (p t : Nat) (D : Nat → Nat) (s i : Nat) (E : Nat → Nat) : Prop := ∀ j, j < 2048 → E j ≤ 2147483647 ∧ ∀ v, v < 2147483647 → (E j ≤ v ↔ ∃ s' i', s' < 2048 ∧ i' < 3 ∧ (s' < s ∨ s' = s ∧ i' < i) ∧ nx l p s' t (chz i') = j ∧ D s' + co t i' ≤ v)
theorem co_le {t i : Nat} (ht : t < 12) (hi : i < 3) : co t i + 4 ^ (11 - t) ≤ 16777216 + 3 * 4 ^ (11 - t) ∧ 4 ^ (12 - t) = 4 * 4 ^ (11 - t) := by
  refine ⟨?_, by rw [Nat.mul_comm, ← Nat.pow_succ]; congr 1; omega⟩
  unfold co
  have : i * 4 ^ (11 - t) ≤ 2 * 4 ^ (11 - t) := Nat.mul_le_mul_right _ (by omega)
  split <;> omega
theorem okD_step {l : Nat → Nat → Int32} {p t s i : Nat} {D E : Nat → Nat} (ht : t < 12) (hD : okD t D) (hE : gone l p t D s i E) : okD (t + 1) E := by
  intro j hj
  obtain ⟨h1, h2⟩ := hE j hj
  by_cases g : E j = 2147483647
  · exact Or.inl g
  · right
    obtain ⟨s', i', q1, q2, q3, q4, q5⟩ := (h2 (E j) (by omega)).mp (Nat.le_refl _)
    have hle : D s' + co t i' < 2147483647 := by omega
    have h3 := (h2 (D s' + co t i') hle).mpr ⟨s', i', q1, q2, q3, q4, Nat.le_refl _⟩
    have e : E j = D s' + co t i' := by omega
    rcases hD s' q1 with q | q
    · omega
    · obtain ⟨c1, c2⟩ := co_le ht q2
      rw [show 12 - (t + 1) = 11 - t by omega, e]
      omega
theorem go_i {σ : Sg} {k p M t s cs cd : Nat} {l : Nat → Nat → Int32} {D : Nat → Nat} {J : Sg → Prop} (hk : k < 6) (hp : p < 1000) (hM : M ≤ 200000) (ht : t < 12) (hs : s < 2048) (hc : cs = 33 ∧ cd = 34 ∨ cs = 34 ∧ cd = 33) (hD : okD t D) (hDs : D s < 2147483647)
    (hJ : ∀ τ' E, XT σ τ' k p M l → (∀ j, j < 2048 → τ'.1 cs j = nI (D j)) → (∀ j, j < 2048 → τ'.1 cd j = nI (E j)) → gone l p t D (s + 1) 0 E → J τ') :
    ∀ (d i : Nat) (τ : Sg) (E : Nat → Nat), i + d = 3 → XT σ τ k p M l → (∀ j, j < 2048 → τ.1 cs j = nI (D j)) → (∀ j, j < 2048 → τ.1 cd j = nI (E j)) → gone l p t D s i E → w_X1_goOn_l32 k (nI t) cs cd (nI s) J (d + 1) (nI i) τ
  | 0, i, τ, E, h, hX, h1, h2, hg => by
    have : i = 3 := by omega
    subst this
    unfold w_X1_goOn_l32
    rw [if_pos (by decide)]
    refine hJ τ E hX h1 h2 (fun j hj => ⟨(hg j hj).1, fun v hv => ⟨fun q => ?_, fun q => ?_⟩⟩)
    · obtain ⟨s', i', q1, q2, q3, q4⟩ := ((hg j hj).2 v hv).mp q
      exact ⟨s', i', q1, q2, by omega, q4⟩
    · obtain ⟨s', i', q1, q2, q3, q4⟩ := q
      exact ((hg j hj).2 v hv).mpr ⟨s', i', q1, q2, by omega, q4⟩
  | d + 1, i, τ, E, h, hX, h1, h2, hg => by
    have hi : i < 3 := by omega
    have hP : 4 ^ (11 - t) = 2 ^ (2 * (11 - t)) := by rw [Nat.pow_mul]
    have hP2 : 4 ^ (11 - t) ≤ 4194304 := Nat.le_trans (Nat.pow_le_pow_right (by decide) (show 11 - t ≤ 11 by omega)) (by decide)
    have hiP : i * 4 ^ (11 - t) ≤ 2 * 4 ^ (11 - t) := Nat.mul_le_mul_right _ (by omega)
    obtain ⟨c1, c2⟩ := co_le ht hi
    have hb : D s + co t i + 4 ^ (11 - t) ≤ (t + 2) * 16777216 := by
      rcases hD s hs with q | q
      · omega
      · omega
    have esh : (2 : Int32) * ((11 : Int32) - nI t) = nI (2 * (11 - t)) := by
      rw [show (11 : Int32) = nI 11 from rfl, pk_sub (by omega), show (2 : Int32) = nI 2 from rfl, pk_mul]
    have hv := vp_nI hs (show 2048 < 1000000 by decide)
    have fin : ∀ x8 : Int32, x8 = nI (if i = 0 then 0 else 16777216) → w_X1_shiftOf (nI t) τ (fun r11 σ10 => bd (((τ.1 cs (Int32.toNatClampNeg (nI s))) + x8) + ((nI i) <<< (r11 &&& 31))) fun x12 => vp_in (nI i) 3 ∧ w_X3_next k (nI s) (nI t) ((exC 5) (Int32.toNatClampNeg (nI i))) σ10 (fun r14 σ13 => vp_in r14 2048 ∧ vp_in r14 2048 ∧ bd (sI σ13 cd (Int32.toNatClampNeg r14) (imin (σ13.1 cd (Int32.toNatClampNeg r14)) x12)) fun σ15 => w_X1_goOn_l32 k (nI t) cs cd (nI s) J (d + 1) ((nI i) + 1) σ15)) := by
      intro x8 e8
      unfold w_X1_shiftOf
      dsimp only
      rw [bd_eq, cl_nI (k := s) (by omega), h1 s hs, e8, nI_add, esh, n_sh (by omega) (by rw [← hP]; omega), ← hP, nI_add, Nat.add_assoc, cl_nI (by omega), (chz_5 i hi).1]
      refine ⟨vp_nI hi (by decide), ?_⟩
      refine next_x hk hX.2.1 hX.2.2 hM hs (by omega) hp (chz_3 i) (fun τ1 hf hC1 hK1 _ => ?_)
      have hnx := nx_lt (l := l) (p := p) (t := t) (b := chz i) hs
      have hv2 := vp_nI hnx (show 2048 < 1000000 by decide)
      have e1 : ∀ j, j < 2048 → τ1.1 cd j = nI (E j) := fun j hj => by rw [hf.1 cd (by omega) (by omega) (by omega) (by omega)]; exact h2 j hj
      have hE31 := (hg _ hnx).1
      rw [bd_eq, cl_nI (by omega), e1 _ hnx, imin_31 (by omega) (by unfold co at hb; omega), nI_1]
      refine ⟨hv2, hv2, ?_⟩
      refine go_i hk hp hM ht hs hc hD hDs hJ d (i + 1) _ (fun j => if j = nx l p s t (chz i) then min (E j) (D s + co t i) else E j) (by omega) (XT_3 hk (by omega) ⟨hX.1.trans (Fx.of_k hk hf), hC1, hK1⟩) (fun j hj => ?_) (fun j hj => ?_) (fun j hj => ?_)
      · rw [rd_ne (by omega), hf.1 cs (by omega) (by omega) (by omega) (by omega)]
        exact h1 j hj
      · rw [rd_in]
        by_cases e : j = nx l p s t (chz i)
        · rw [if_pos e, if_pos e, e]
          rfl
        · rw [if_neg e, if_neg e]
          exact e1 j hj
      · obtain ⟨g1, g2⟩ := hg j hj
        dsimp only
        by_cases e : j = nx l p s t (chz i)
        · rw [if_pos e]
          refine ⟨by omega, fun v hv' => ?_⟩
          constructor
          · intro q
            by_cases q2 : E j ≤ v
            · obtain ⟨s', i', w1, w2, w3, w4⟩ := (g2 v hv').mp q2
              exact ⟨s', i', w1, w2, by omega, w4⟩
            · exact ⟨s, i, hs, hi, by omega, e.symm, by omega⟩
          · rintro ⟨s', i', w1, w2, w3, w4, w5⟩
            by_cases q2 : s' = s ∧ i' = i
            · rw [q2.1, q2.2] at w5
              omega
            · have := (g2 v hv').mpr ⟨s', i', w1, w2, by omega, w4, w5⟩
              omega
        · rw [if_neg e]
          refine ⟨g1, fun v hv' => ?_⟩
          rw [g2 v hv']
          constructor
          · rintro ⟨s', i', w1, w2, w3, w4⟩
            exact ⟨s', i', w1, w2, by omega, w4⟩
          · rintro ⟨s', i', w1, w2, w3, w4, w5⟩
            refine ⟨s', i', w1, w2, ?_, w4, w5⟩
            by_cases q2 : s' = s ∧ i' = i
            · rw [q2.1, q2.2] at w4
              exact absurd w4.symm e
            · omega
    unfold w_X1_goOn_l32
    rw [if_neg (show ¬ (3 : Int32) ≤ nI i from nI_ge (b := 3) (by omega) (by decide)), bd_eq]
    refine ⟨hv, ?_⟩
    by_cases g0 : i = 0
    · rw [if_pos (show nI i = 0 by rw [g0]; rfl)]
      exact fin 0 (by rw [if_pos g0]; rfl)
    · rw [if_neg (nI_ne0 (by omega) (by omega))]
      exact fin 16777216 (by rw [if_neg g0]; rfl)
theorem go_s {σ : Sg} {k p M t cs cd : Nat} {l : Nat → Nat → Int32} {D : Nat → Nat} {Q : Sg → Prop} (hk : k < 6) (hp : p < 1000) (hM : M ≤ 200000) (ht : t < 12) (hc : cs = 33 ∧ cd = 34 ∨ cs = 34 ∧ cd = 33) (hD : okD t D)
    (hQ : ∀ τ' E, XT σ τ' k p M l → (∀ j, j < 2048 → τ'.1 cd j = nI (E j)) → gone l p t D 2048 0 E → Q τ') :
    ∀ (d s : Nat) (τ : Sg) (E : Nat → Nat), s + d = 2048 → XT σ τ k p M l → (∀ j, j < 2048 → τ.1 cs j = nI (D j)) → (∀ j, j < 2048 → τ.1 cd j = nI (E j)) → gone l p t D s 0 E → w_X1_goOn_l9 k (nI t) cs cd Q (d + 1) (nI s) τ
  | 0, s, τ, E, h, hX, h1, h2, hg => by
    have : s = 2048 := by omega
    subst this
    unfold w_X1_goOn_l9
    rw [if_pos (show (2048 : Int32) ≤ nI 2048 from nI_le (a := 2048) (Nat.le_refl _) (by decide))]
    exact hQ τ E hX h2 hg
  | d + 1, s, τ, E, h, hX, h1, h2, hg => by
    have hs : s < 2048 := by omega
    have hv := vp_nI hs (show 2048 < 1000000 by decide)
    have hD31 : D s ≤ 2147483647 := by
      have := hD s hs
      generalize 4 ^ (12 - t) = P at this
      omega
    unfold w_X1_goOn_l9
    rw [if_neg (show ¬ (2048 : Int32) ≤ nI s from nI_ge (b := 2048) (by omega) (by decide)), bd_eq, cl_nI (by omega), h1 s hs, nI_1]
    refine ⟨hv, ?_⟩
    by_cases g : D s = 2147483647
    · rw [if_pos (by rw [g]; rfl)]
      refine go_s hk hp hM ht hc hD hQ d (s + 1) τ E (by omega) hX h1 h2 (fun j hj => ⟨(hg j hj).1, fun v hv' => ?_⟩)
      rw [(hg j hj).2 v hv']
      constructor
      · rintro ⟨s', i', w1, w2, w3, w4⟩
        exact ⟨s', i', w1, w2, by omega, w4⟩
      · rintro ⟨s', i', w1, w2, w3, w4, w5⟩
        refine ⟨s', i', w1, w2, ?_, w4, w5⟩
        by_cases q2 : s' = s
        · rw [q2] at w5; omega
        · omega
    · rw [if_neg (show ¬ nI (D s) = (2147483647 : Int32) from fun q => g ((nI_eq (b := 2147483647) (by omega) (by decide)).mp q))]
      refine ⟨4, go_i hk hp hM ht hs hc hD (by omega) (fun τ' E' a1 a2 a3 a4 => ?_) 3 0 τ E (by decide) hX h1 h2 hg⟩
      exact go_s hk hp hM ht hc hD hQ d (s + 1) τ' E' (by omega) a1 a2 a3 a4
/-- the best so far and the best from here on -/
def bes (l : Nat → Nat → Int32) (p r b T s0 t : Nat) (D : Nat → Nat) : Prop := ∀ v, v < 2147483647 → ((∃ s, s < 2048 ∧ D s + bpF l p r b (T - t) t s ≤ v) ↔ bpF l p r b T 0 s0 ≤ v)
theorem bes_s {l : Nat → Nat → Int32} {p r b T s0 t : Nat} {D E : Nat → Nat} (ht : t < T) (hg : gone l p t D 2048 0 E) (h : bes l p r b T s0 t D) : bes l p r b T s0 (t + 1) E := by
  intro v hv
  rw [← h v hv, show T - t = (T - (t + 1)) + 1 by omega]
  have eb : ∀ s, bpF l p r b (T - (t + 1) + 1) t s = min 2147483647 (min (co t 0 + bpF l p r b (T - (t + 1)) (t + 1) (nx l p s t (chz 0))) (min (co t 1 + bpF l p r b (T - (t + 1)) (t + 1) (nx l p s t (chz 1))) (co t 2 + bpF l p r b (T - (t + 1)) (t + 1) (nx l p s t (chz 2))))) := fun _ => rfl
  constructor
  · rintro ⟨j, hj, q⟩
    obtain ⟨g1, g2⟩ := hg j hj
    obtain ⟨s', i', w1, w2, w3, w4, w5⟩ := (g2 (E j) (by omega)).mp (Nat.le_refl _)
    refine ⟨s', w1, ?_⟩
    subst w4
    rw [eb]
    have : i' = 0 ∨ i' = 1 ∨ i' = 2 := by omega
    rcases this with e | e | e
    · subst e; omega
    · subst e; omega
    · subst e; omega
  · rintro ⟨s, hs, q⟩
    rw [eb] at q
    have key : ∀ i, i < 3 → D s + (co t i + bpF l p r b (T - (t + 1)) (t + 1) (nx l p s t (chz i))) ≤ v → ∃ j, j < 2048 ∧ E j + bpF l p r b (T - (t + 1)) (t + 1) j ≤ v := by
      intro i hi q'
      refine ⟨nx l p s t (chz i), nx_lt hs, ?_⟩
      have := ((hg _ (nx_lt (l := l) (p := p) (t := t) (b := chz i) hs)).2 (D s + co t i) (by omega)).mpr ⟨s, i, hs, hi, by omega, rfl, Nat.le_refl _⟩
      omega
    by_cases c0 : D s + (co t 0 + bpF l p r b (T - (t + 1)) (t + 1) (nx l p s t (chz 0))) ≤ v
    · exact key 0 (by decide) c0
    · by_cases c1 : D s + (co t 1 + bpF l p r b (T - (t + 1)) (t + 1) (nx l p s t (chz 1))) ≤ v
      · exact key 1 (by decide) c1
      · exact key 2 (by decide) (by omega)
theorem few_l {σ : Sg} {k p r b M T s0 : Nat} {l : Nat → Nat → Int32} {J : Nat → Sg → Prop} (hk : k < 6) (hp : p < 1000) (hM : M ≤ 200000) (hT : T ≤ 12)
    (hJ : ∀ τ' cs D, XT σ τ' k p M l → (∀ j, j < 2048 → τ'.1 cs j = nI (D j)) → okD T D → bes l p r b T s0 T D → J cs τ') :
    ∀ (d t : Nat) (τ : Sg) (cs cd : Nat) (D : Nat → Nat), t + d = T → (cs = 33 ∧ cd = 34 ∨ cs = 34 ∧ cd = 33) → XT σ τ k p M l → (∀ j, j < 2048 → τ.1 cs j = nI (D j)) → okD t D → bes l p r b T s0 t D → w_X1_fewestReins_l53 (nI k) (nI T) J (d + 1) cs cd (nI t) τ
  | 0, t, τ, cs, cd, D, h, hc, hX, h1, hD, hb => by
    have : t = T := by omega
    subst this
    unfold w_X1_fewestReins_l53
    rw [if_pos (nI_le (Nat.le_refl _) (by omega))]
    exact hJ τ cs D hX h1 hD hb
  | d + 1, t, τ, cs, cd, D, h, hc, hX, h1, hD, hb => by
    unfold w_X1_fewestReins_l53
    rw [if_neg (nI_ge (by omega) (by omega)), cl_nI (by omega), nI_1]
    unfold w_X1_goOn
    refine fill_x (by decide) ⟨2049, ?_⟩
    refine go_s (D := D) hk hp hM (by omega) hc hD (fun τ' E a1 a2 a3 => ?_) 2048 0 _ (fun _ => 2147483647) (by decide) (XT_3r hk (by omega) hX) (fun j hj => by rw [rdr_ne (by omega)]; exact h1 j hj) (fun j hj => by rw [rdr_eq, if_pos hj]; rfl) (fun j hj => ⟨Nat.le_refl _, fun v hv => ⟨fun q => absurd (show 2147483647 ≤ v from q) (by omega), fun ⟨s', i', w1, w2, w3, w4⟩ => by omega⟩⟩)
    exact few_l hk hp hM hT hJ d (t + 1) τ' cd cs E (by omega) (by omega) a1 a2 (okD_step (by omega) hD a3) (bes_s (by omega) a3 hb)
theorem least_x {τ : Sg} {r b cs B : Nat} {D : Nat → Nat} {Q : Int32 → Sg → Prop} (hb : b < 256) (hr : r ≤ 5) (h8 : τ.1 1 8 = nI r) (hD : ∀ s, s < 2048 → D s ≤ 2147483647) (h1 : ∀ j, j < 2048 → τ.1 cs j = nI (D j)) (hB : B ≤ 2147483647) (hBv : ∀ v, v < 2147483647 → ((∃ s, s < 2048 ∧ nr r (s / 8) b = true ∧ D s ≤ v) ↔ B ≤ v)) (hQ : Q (nI B) τ) :
    ∀ (d s R : Nat), s + d = 2048 → R ≤ 2147483647 → (∀ v, v < 2147483647 → (R ≤ v ↔ ∃ s', s' < s ∧ nr r (s' / 8) b = true ∧ D s' ≤ v)) → w_X1_leastNear_l6 cs (nI b) Q (d + 1) (nI R) (nI s) τ
  | 0, s, R, h, hR, hv => by
    have : s = 2048 := by omega
    subst this
    unfold w_X1_leastNear_l6
    rw [if_pos (show (2048 : Int32) ≤ nI 2048 from nI_le (a := 2048) (Nat.le_refl _) (by decide))]
    have : R = B := by
      by_cases g : R < 2147483647
      · have h1 := (hBv R g).mp ((hv R g).mp (Nat.le_refl _))
        have h2 := (hv B (by omega)).mpr ((hBv B (by omega)).mpr (Nat.le_refl _))
        omega
      · by_cases g2 : B < 2147483647
        · have h2 := (hv B g2).mpr ((hBv B g2).mpr (Nat.le_refl _))
          omega
        · omega
    rw [this]
    exact hQ
  | d + 1, s, R, h, hR, hv => by
    have hs : s < 2048 := by omega
    have hv1 := vp_nI hs (show 2048 < 1000000 by decide)
    have hDs := hD s hs
    unfold w_X1_leastNear_l6
    rw [if_neg (show ¬ (2048 : Int32) ≤ nI s from nI_ge (b := 2048) (by omega) (by decide)), bd_eq, cl_nI (by omega), h1 s hs, nI_1]
    refine ⟨hv1, ?_⟩
    by_cases g : R ≤ D s
    · rw [if_pos (nI_le g (by omega))]
      refine least_x hb hr h8 hD h1 hB hBv hQ d (s + 1) R (by omega) hR (fun v hv' => ?_)
      rw [hv v hv']
      constructor
      · rintro ⟨s', w1, w2, w3⟩
        exact ⟨s', by omega, w2, w3⟩
      · rintro ⟨s', w1, w2, w3⟩
        by_cases e : s' = s
        · rw [e] at w3
          exact (hv v hv').mp (by omega)
        · exact ⟨s', by omega, w2, w3⟩
    · rw [if_neg (nI_ge (by omega) (by omega)), sh3 (by omega), nrX (by omega) hb hr h8]
      by_cases g2 : nr r (s / 8) b = true
      · rw [if_pos g2, if_neg one_ne, h1 s hs, bd_eq]
        refine ⟨hv1, ?_⟩
        refine least_x hb hr h8 hD h1 hB hBv hQ d (s + 1) (D s) (by omega) hDs (fun v hv' => ?_)
        constructor
        · intro q
          exact ⟨s, by omega, g2, q⟩
        · rintro ⟨s', w1, w2, w3⟩
          by_cases e : s' = s
          · rw [e] at w3; exact w3
          · have := (hv v hv').mpr ⟨s', by omega, w2, w3⟩
            omega
      · rw [if_neg g2, if_pos rfl]
        refine least_x hb hr h8 hD h1 hB hBv hQ d (s + 1) R (by omega) hR (fun v hv' => ?_)
        rw [hv v hv']
        constructor
        · rintro ⟨s', w1, w2, w3⟩
          exact ⟨s', by omega, w2, w3⟩
        · rintro ⟨s', w1, w2, w3⟩
          by_cases e : s' = s
          · rw [e] at w2; exact absurd w2 g2
          · exact ⟨s', by omega, w2, w3⟩
